set_option maxHeartbeats 4000000 in
set_option maxRecDepth 100000 in
theorem w_X10_status_h21 {p : Program} {l : Launch} {e : Env} {s : State} {m : MethodId} {args : Array Value} {below : List Frame} {meth : Method} {c : Code} {D : va_G} {E : Nat → ClassId} {tU : Nat} {m0 mE : XMem} {rE : Int32} (C : Cx p s m args c cX10_status 4 RX10 D E (Am m0) tU) (hr : meth.sig.returnType = ((Option.some FieldType.int))) (hk : meth.locks = false) (hnm : meth.name = yX10_status.name) {a0 : Nat} {x1 : Int32} (ta0 : mT m0 a0 = some (.inl 10)) {k55 : Int32 →  XMem → Option (Int32 × XMem)} (hk55 : ∀ (y2 : Int32) (mu : XMem) (H : Heap) (locs : List Loc) (ls : Array Slot), lv_has ls 4 [(2, .int y2)] → Wd D E (Am m0) s (mT m0) mu H locs →   k55 y2 mu = some (rE, mE) → W p l e (rmN 2 0 0) s m args below meth c H locs 0 0 (MQ below (XQ D E (Am m0) (some (.int rE)) mE (mT mE = mT m0 ∧ True)) args s 0 0 (Am m0)) (F0 m 55 ls [])) : ∀ (n : Nat) (x2 : Int32) (x3 : Int32) (mu : XMem) (H : Heap) (locs : List Loc) (ls : Array Slot), lv_has ls 4 [(0, .ref a0), (1, .int x1), (2, .int x2), (3, .int x3)] → Wd D E (Am m0) s (mT m0) mu H locs → f_X10_status_h21 a0 x1 k55 n x2 x3 mu = some (rE, mE) → W p l e (rmN 2 0 0) s m args below meth c H locs 0 0 (MQ below (XQ D E (Am m0) (some (.int rE)) mE (mT mE = mT m0 ∧ True)) args s 0 0 (Am m0)) (F0 m 21 ls []) := by
  have hx := C.1
  have hb := C.2.1
  intro n
  induction n with
  | zero =>
    intros
    rename_i hf
    cases hf
  | succ n ih =>
    intro x2 x3 mu H locs ls hl hw hf
    rw [f_X10_status_h21] at hf
    refine lv_iload_n hx hb dX10_status_21 rfl (lv_at hl 3 rfl) ?_
    refine lv_bipush hx hb dX10_status_22 kb_7 ?_
    refine lv_icmp_ge (tgt := 55) hx hb dX10_status_24 (by decide) (fun c => ?_) (fun c => ?_)
    · have hf := ifp hf c
      exact hk55 _ _ _ _ _ (lv_sub hl [2] rfl) hw hf
    · have hf := ifn hf c
      refine lv_iload_n hx hb dX10_status_27 rfl (lv_at hl 2 rfl) ?_
      refine lv_iload_n hx hb dX10_status_28 rfl (lv_at hl 1 rfl) ?_
      refine lv_if_lt (tgt := 37) hx hb dX10_status_29 (by decide) (fun c => ?_) (fun c => ?_)
      · have hf := ifp hf c
        refine lv_aload_n hx hb dX10_status_37 rfl (lv_at hl 0 rfl) ?_
        obtain ⟨b107, eb107, hf⟩ := fo_el hf
        refine x_getR C hw fa_X10_23 (Or.inr ⟨_, rfl⟩) ta0 eb107 dX10_status_38 (fun tb107 => ?_)
        have tb107 : ∃ n, (mT m0) b107 = some (.inr (0, n)) := tb107
        refine lv_iload_n hx hb dX10_status_41 rfl (lv_at hl 3 rfl) ?_
        obtain ⟨g108, hf⟩ := gd_el hf
        refine x_iald C hw tb107 g108 dX10_status_42 ?_
        refine lv_goto (tgt := 47) hx hb dX10_status_43 (by decide) ?_
        refine lv_iadd hx hb dX10_status_47 ?_
        refine lv_topi (fun x109 ex109 => ?_)
        have hf := nm_el hf ex109
        refine lv_istore_n (lv' := [(2, .int x109), (0, .ref a0), (1, .int x1), (3, .int x3)]) hx hb dX10_status_48 rfl hl (by decide) rfl (fun ls hl => ?_)
        obtain ⟨x110, ex110⟩ : ∃ z : Int32, z = x3 + 1 := ⟨_, rfl⟩
        have hf := nm_el hf ex110
        refine lv_iinc (v := x110) (lv' := [(3, .int x110), (2, .int x109), (0, .ref a0), (1, .int x1)]) hx hb dX10_status_49 hl (k := 3) rfl (by rw [ex110, ki_1]) (by decide) rfl (fun ls hl => ?_)
        refine lv_goto (tgt := 21) hx hb dX10_status_52 (by decide) ?_
        exact ih _ _ _ _ _ _ (lv_sub hl [2, 3, 1, 0] rfl) hw hf
      · have hf := ifn hf c
        refine lv_iload_n hx hb dX10_status_32 rfl (lv_at hl 1 rfl) ?_
        refine lv_iload_n hx hb dX10_status_33 rfl (lv_at hl 3 rfl) ?_
        refine lv_icmp_ne (tgt := 46) hx hb dX10_status_34 (by decide) (fun c => ?_) (fun c => ?_)
        · have hf := ifn hf c
          refine lv_iconst hx hb dX10_status_46 ki_0 ?_
          refine lv_iadd hx hb dX10_status_47 ?_
          refine lv_topi (fun x111 ex111 => ?_)
          have hf := nm_el hf ex111
          refine lv_istore_n (lv' := [(2, .int x111), (0, .ref a0), (1, .int x1), (3, .int x3)]) hx hb dX10_status_48 rfl hl (by decide) rfl (fun ls hl => ?_)
          obtain ⟨x112, ex112⟩ : ∃ z : Int32, z = x3 + 1 := ⟨_, rfl⟩
          have hf := nm_el hf ex112
          refine lv_iinc (v := x112) (lv' := [(3, .int x112), (2, .int x111), (0, .ref a0), (1, .int x1)]) hx hb dX10_status_49 hl (k := 3) rfl (by rw [ex112, ki_1]) (by decide) rfl (fun ls hl => ?_)
          refine lv_goto (tgt := 21) hx hb dX10_status_52 (by decide) ?_
          exact ih _ _ _ _ _ _ (lv_sub hl [2, 3, 1, 0] rfl) hw hf
        · have hf := ifp hf c
          refine lv_aload_n hx hb dX10_status_37 rfl (lv_at hl 0 rfl) ?_
          obtain ⟨b113, eb113, hf⟩ := fo_el hf
          refine x_getR C hw fa_X10_23 (Or.inr ⟨_, rfl⟩) ta0 eb113 dX10_status_38 (fun tb113 => ?_)
          have tb113 : ∃ n, (mT m0) b113 = some (.inr (0, n)) := tb113
          refine lv_iload_n hx hb dX10_status_41 rfl (lv_at hl 3 rfl) ?_
          obtain ⟨g114, hf⟩ := gd_el hf
          refine x_iald C hw tb113 g114 dX10_status_42 ?_
          refine lv_goto (tgt := 47) hx hb dX10_status_43 (by decide) ?_
          refine lv_iadd hx hb dX10_status_47 ?_
          refine lv_topi (fun x115 ex115 => ?_)
          have hf := nm_el hf ex115
          refine lv_istore_n (lv' := [(2, .int x115), (0, .ref a0), (1, .int x1), (3, .int x3)]) hx hb dX10_status_48 rfl hl (by decide) rfl (fun ls hl => ?_)
          obtain ⟨x116, ex116⟩ : ∃ z : Int32, z = x3 + 1 := ⟨_, rfl⟩
          have hf := nm_el hf ex116
          refine lv_iinc (v := x116) (lv' := [(3, .int x116), (2, .int x115), (0, .ref a0), (1, .int x1)]) hx hb dX10_status_49 hl (k := 3) rfl (by rw [ex116, ki_1]) (by decide) rfl (fun ls hl => ?_)
          refine lv_goto (tgt := 21) hx hb dX10_status_52 (by decide) ?_
          exact ih _ _ _ _ _ _ (lv_sub hl [2, 3, 1, 0] rfl) hw hf
set_option maxHeartbeats 4000000 in
set_option maxRecDepth 100000 in
theorem k_X10_status {l : Launch} {D : va_G} {E : Nat → ClassId} {tU : Nat} {τ : Nat → Option XTy} {a0 : Nat} {x1 : Int32} {m0 mE : XMem} {rE : Int32} (hm : mT m0 = τ) (ta0 : τ a0 = some (.inl 10)) (hf : f_X10_status a0 x1 m0 = some (rE, mE)) : Ct l yX10_status cX10_status 4 ((Option.some FieldType.int)) 2 0 0 D E tU [.ref a0, .int x1] m0 (some (.int rE)) mE (mT mE = mT m0 ∧ True) := by
  subst hm
  refine Ct.of (by decide) (Nat.le_of_ble_eq_true rfl) (fun p e s m below meth c ls C hr hk hnm hl hw => ?_)
  have hx := C.1
  have hb := C.2.1
  have hl : lv_has ls 4 [(0, .ref a0), (1, .int x1)] := hl
  unfold f_X10_status at hf
  refine lv_iload_n hx hb dX10_status_0 rfl (lv_at hl 1 rfl) ?_
  refine lv_iconst hx hb dX10_status_1 ki_m1 ?_
  refine lv_bipush hx hb dX10_status_2 kb_6 ?_
  obtain ⟨r102, m101, cm101, hf⟩ := b2_el (o := f_X10_within x1 (-1) 6 m0) hf
  refine x_callSi (As := [.int x1, .int (-1), .int 6]) (rest := []) C hl.1 hw cb_X10_62 cs_X10_within (k_X10_within hw.2.2.2.2  cm101) rfl (by decide) ⟨Nat.le_refl _, Nat.le_refl _⟩ rfl (Nat.le_of_ble_eq_true rfl) dX10_status_4 (fun H locs hw tr102 => ?_)
  refine lv_if_ne (tgt := 17) hx hb dX10_status_7 (by decide) (fun c => ?_) (fun c => ?_)
  · have hf := ifn hf c
    refine lv_iconst hx hb dX10_status_17 ki_0 ?_
    refine lv_istore_n (lv' := [(2, .int 0), (0, .ref a0), (1, .int x1)]) hx hb dX10_status_18 rfl hl (by decide) rfl (fun ls hl => ?_)
    refine lv_iconst hx hb dX10_status_19 ki_0 ?_
    refine lv_istore_n (lv' := [(3, .int 0), (2, .int 0), (0, .ref a0), (1, .int x1)]) hx hb dX10_status_20 rfl hl (by decide) rfl (fun ls hl => ?_)
    refine w_X10_status_h21 C hr hk hnm ta0 ?_ 2000 _ _ _ _ _ _ (lv_sub hl [2, 3, 1, 0] rfl) hw hf
    intro x104 m103 H locs ls hl hw hf
    refine lv_iload_n hx hb dX10_status_55 rfl (lv_at hl 0 rfl) ?_
    exact x_retI C hr hk hw  hf (by decide) (by decide) dX10_status_56
  · have hf := ifp hf c
    refine lv_aload_n hx hb dX10_status_10 rfl (lv_at hl 0 rfl) ?_
    refine lv_ldc hx hb C.2.2.2.1 (C.2.2.2.2.1 _ ki_X10_61) dX10_status_11 ?_
    obtain ⟨r106, m105, cm105, hf⟩ := b2_el (o := f_X10_finds a0 (-1000000001) m101) hf
    refine x_callVi (As := [.int (-1000000001)]) (rest := []) C hl.1 hw cb_X10_67 cv_X10_finds (k_X10_finds hw.2.2.2.2 ta0 cm105) ta0 rfl rfl (by decide) ⟨Nat.le_refl _, Nat.le_refl _⟩ rfl (Nat.le_of_ble_eq_true rfl) dX10_status_13 (fun H locs hw tr106 => ?_)
    exact x_retI C hr hk hw  hf (by decide) (by decide) dX10_status_16
set_option maxHeartbeats 4000000 in
set_option maxRecDepth 100000 in
theorem k_X10_tear {l : Launch} {D : va_G} {E : Nat → ClassId} {tU : Nat} {τ : Nat → Option XTy} {a0 : Nat} {m0 mE : XMem} {rE : Int32} (hm : mT m0 = τ) (ta0 : τ a0 = some (.inl 10)) (hf : f_X10_tear a0 m0 = some (rE, mE)) : Ct l yX10_tear cX10_tear 2 ((Option.some FieldType.int)) 1 0 0 D E tU [.ref a0] m0 (some (.int rE)) mE (mT mE = mT m0 ∧ True) := by
  subst hm
  refine Ct.of (by decide) (Nat.le_of_ble_eq_true rfl) (fun p e s m below meth c ls C hr hk hnm hl hw => ?_)
  have hx := C.1
  have hb := C.2.1
  have hl : lv_has ls 2 [(0, .ref a0)] := hl
  unfold f_X10_tear at hf
  refine lv_aload_n hx hb dX10_tear_0 rfl (lv_at hl 0 rfl) ?_
  refine x_getZ C hw fa_X10_245 ta0 dX10_tear_1 ?_
  refine lv_if_eq (tgt := 11) hx hb dX10_tear_4 (by decide) (fun c => ?_) (fun c => ?_)
  · have hf := ifp hf c
    refine lv_iconst hx hb dX10_tear_11 ki_0 ?_
    refine lv_istore_n (lv' := [(1, .int 0), (0, .ref a0)]) hx hb dX10_tear_12 rfl hl (by decide) rfl (fun ls hl => ?_)
    refine lv_aload_n hx hb dX10_tear_13 rfl (lv_at hl 1 rfl) ?_
    refine lv_iconst hx hb dX10_tear_14 ki_0 ?_
    refine x_putZ C hw fa_X10_245 ta0 (Or.inl rfl) dX10_tear_15 (fun m101 H locs em101 hw => ?_)
    have hf := nm_el hf em101
    refine lv_iload_n hx hb dX10_tear_18 rfl (lv_at hl 0 rfl) ?_
    exact x_retI C hr hk hw  hf (by decide) (by decide) dX10_tear_19
  · have hf := ifn hf c
    refine lv_iconst hx hb dX10_tear_7 ki_1 ?_
    refine lv_goto (tgt := 12) hx hb dX10_tear_8 (by decide) ?_
    refine lv_istore_n (lv' := [(1, .int 1), (0, .ref a0)]) hx hb dX10_tear_12 rfl hl (by decide) rfl (fun ls hl => ?_)
    refine lv_aload_n hx hb dX10_tear_13 rfl (lv_at hl 1 rfl) ?_
    refine lv_iconst hx hb dX10_tear_14 ki_0 ?_
    refine x_putZ C hw fa_X10_245 ta0 (Or.inl rfl) dX10_tear_15 (fun m102 H locs em102 hw => ?_)
    have hf := nm_el hf em102
    refine lv_iload_n hx hb dX10_tear_18 rfl (lv_at hl 0 rfl) ?_
    exact x_retI C hr hk hw  hf (by decide) (by decide) dX10_tear_19
set_option maxHeartbeats 4000000 in
set_option maxRecDepth 100000 in
theorem k_X10_tells {l : Launch} {D : va_G} {E : Nat → ClassId} {tU : Nat} {τ : Nat → Option XTy} {a0 : Nat} {x1 : Int32} {x2 : Int32} {m0 mE : XMem} {rE : Int32} (hm : mT m0 = τ) (ta0 : τ a0 = some (.inl 10)) (hf : f_X10_tells a0 x1 x2 m0 = some (rE, mE)) : Ct l yX10_tells cX10_tells 3 ((Option.some FieldType.int)) 6 0 0 D E tU [.ref a0, .int x1, .int x2] m0 (some (.int rE)) mE (mT mE = mT m0 ∧ True) := by
  subst hm
  refine Ct.of (by decide) (Nat.le_of_ble_eq_true rfl) (fun p e s m below meth c ls C hr hk hnm hl hw => ?_)
  have hx := C.1
  have hb := C.2.1
  have hl : lv_has ls 3 [(0, .ref a0), (1, .int x1), (2, .int x2)] := hl
  unfold f_X10_tells at hf
  refine lv_aload_n hx hb dX10_tells_0 rfl (lv_at hl 0 rfl) ?_
  refine lv_iload_n hx hb dX10_tells_1 rfl (lv_at hl 1 rfl) ?_
  obtain ⟨r102, m101, cm101, hf⟩ := b2_el (o := f_X10_isLaw a0 x1 m0) hf
  refine x_callVi (As := [.int x1]) (rest := []) C hl.1 hw cb_X10_190 cv_X10_isLaw (k_X10_isLaw hw.2.2.2.2 ta0 cm101) ta0 rfl rfl (by decide) ⟨Nat.le_refl _, Nat.le_refl _⟩ rfl (Nat.le_of_ble_eq_true rfl) dX10_tells_2 (fun H locs hw tr102 => ?_)
  refine lv_if_eq (tgt := 31) hx hb dX10_tells_5 (by decide) (fun c => ?_) (fun c => ?_)
  · have hf := ifp hf c
    refine lv_aload_n hx hb dX10_tells_31 rfl (lv_at hl 0 rfl) ?_
    refine lv_ldc hx hb C.2.2.2.1 (C.2.2.2.2.1 _ ki_X10_61) dX10_tells_32 ?_
    obtain ⟨r104, m103, cm103, hf⟩ := b2_el (o := f_X10_finds a0 (-1000000001) m101) hf
    refine x_callVi (As := [.int (-1000000001)]) (rest := []) C hl.1 hw cb_X10_67 cv_X10_finds (k_X10_finds hw.2.2.2.2 ta0 cm103) ta0 rfl rfl (by decide) ⟨Nat.le_refl _, Nat.le_refl _⟩ rfl (Nat.le_of_ble_eq_true rfl) dX10_tells_34 (fun H locs hw tr104 => ?_)
    exact x_retI C hr hk hw  hf (by decide) (by decide) dX10_tells_37
  · have hf := ifn hf c
    refine lv_aload_n hx hb dX10_tells_8 rfl (lv_at hl 0 rfl) ?_
    refine lv_iload_n hx hb dX10_tells_9 rfl (lv_at hl 2 rfl) ?_
    obtain ⟨r106, m105, cm105, hf⟩ := b2_el (o := f_X10_isCell a0 x2 m101) hf
    refine x_callVi (As := [.int x2]) (rest := []) C hl.1 hw cb_X10_76 cv_X10_isCell (k_X10_isCell hw.2.2.2.2 ta0 cm105) ta0 rfl rfl (by decide) ⟨Nat.le_refl _, Nat.le_refl _⟩ rfl (Nat.le_of_ble_eq_true rfl) dX10_tells_10 (fun H locs hw tr106 => ?_)
    refine lv_if_eq (tgt := 31) hx hb dX10_tells_13 (by decide) (fun c => ?_) (fun c => ?_)
    · have hf := ifp hf c
      refine lv_aload_n hx hb dX10_tells_31 rfl (lv_at hl 0 rfl) ?_
      refine lv_ldc hx hb C.2.2.2.1 (C.2.2.2.2.1 _ ki_X10_61) dX10_tells_32 ?_
      obtain ⟨r108, m107, cm107, hf⟩ := b2_el (o := f_X10_finds a0 (-1000000001) m105) hf
      refine x_callVi (As := [.int (-1000000001)]) (rest := []) C hl.1 hw cb_X10_67 cv_X10_finds (k_X10_finds hw.2.2.2.2 ta0 cm107) ta0 rfl rfl (by decide) ⟨Nat.le_refl _, Nat.le_refl _⟩ rfl (Nat.le_of_ble_eq_true rfl) dX10_tells_34 (fun H locs hw tr108 => ?_)
      exact x_retI C hr hk hw  hf (by decide) (by decide) dX10_tells_37
    · have hf := ifn hf c
      refine lv_aload_n hx hb dX10_tells_16 rfl (lv_at hl 0 rfl) ?_
      refine lv_iload_n hx hb dX10_tells_17 rfl (lv_at hl 1 rfl) ?_
      refine lv_iload_n hx hb dX10_tells_18 rfl (lv_at hl 2 rfl) ?_
      refine lv_aload_n hx hb dX10_tells_19 rfl (lv_at hl 0 rfl) ?_
      obtain ⟨b109, eb109, hf⟩ := fo_el hf
      refine x_getR C hw fa_X10_7 (Or.inr ⟨_, rfl⟩) ta0 eb109 dX10_tells_20 (fun tb109 => ?_)
      have tb109 : ∃ n, (mT m0) b109 = some (.inr (0, n)) := tb109
      refine lv_iconst hx hb dX10_tells_23 ki_0 ?_
      obtain ⟨g110, hf⟩ := gd_el hf
      refine x_iald C hw tb109 g110 dX10_tells_24 ?_
      obtain ⟨r112, m111, cm111, hf⟩ := b2_el (o := f_X10_worked a0 x1 x2 (mI m105 b109 (Int32.toNatClampNeg 0)) m105) hf
      refine x_callVi (As := [.int x1, .int x2, .int (mI m105 b109 (Int32.toNatClampNeg 0))]) (rest := []) C hl.1 hw cb_X10_87 cv_X10_worked (k_X10_worked hw.2.2.2.2 ta0 cm111) ta0 rfl rfl (by decide) ⟨Nat.le_refl _, Nat.le_refl _⟩ rfl (Nat.le_of_ble_eq_true rfl) dX10_tells_25 (fun H locs hw tr112 => ?_)
      refine lv_goto (tgt := 37) hx hb dX10_tells_28 (by decide) ?_
      exact x_retI C hr hk hw  hf (by decide) (by decide) dX10_tells_37
set_option maxHeartbeats 4000000 in
set_option maxRecDepth 100000 in
theorem k_X10_told {l : Launch} {D : va_G} {E : Nat → ClassId} {tU : Nat} {τ : Nat → Option XTy} {a0 : Nat} {x1 : Int32} {m0 mE : XMem} {rE : Int32} (hm : mT m0 = τ) (ta0 : τ a0 = some (.inl 10)) (hf : f_X10_told a0 x1 m0 = some (rE, mE)) : Ct l yX10_told cX10_told 2 ((Option.some FieldType.int)) 14 0 0 D E tU [.ref a0, .int x1] m0 (some (.int rE)) mE (mT mE = mT m0 ∧ True) := by
  subst hm
  refine Ct.of (by decide) (Nat.le_of_ble_eq_true rfl) (fun p e s m below meth c ls C hr hk hnm hl hw => ?_)
  have hx := C.1
  have hb := C.2.1
  have hl : lv_has ls 2 [(0, .ref a0), (1, .int x1)] := hl
  unfold f_X10_told at hf
  refine lv_iload_n hx hb dX10_told_0 rfl (lv_at hl 1 rfl) ?_
  refine lv_iconst hx hb dX10_told_1 ki_0 ?_
  refine lv_iconst hx hb dX10_told_2 ki_1 ?_
  obtain ⟨r102, m101, cm101, hf⟩ := b2_el (o := f_X10_within x1 0 1 m0) hf
  refine x_callSi (As := [.int x1, .int 0, .int 1]) (rest := []) C hl.1 hw cb_X10_62 cs_X10_within (k_X10_within hw.2.2.2.2  cm101) rfl (by decide) ⟨Nat.le_refl _, Nat.le_refl _⟩ rfl (Nat.le_of_ble_eq_true rfl) dX10_told_3 (fun H locs hw tr102 => ?_)
  refine lv_if_ne (tgt := 16) hx hb dX10_told_6 (by decide) (fun c => ?_) (fun c => ?_)
  · have hf := ifn hf c
    refine lv_aload_n hx hb dX10_told_16 rfl (lv_at hl 0 rfl) ?_
    obtain ⟨r104, m103, cm103, hf⟩ := b2_el (o := f_X10_isText a0 m101) hf
    refine x_callVi (As := []) (rest := []) C hl.1 hw cb_X10_173 cv_X10_isText (k_X10_isText hw.2.2.2.2 ta0 cm103) ta0 rfl rfl (by decide) ⟨Nat.le_refl _, Nat.le_refl _⟩ rfl (Nat.le_of_ble_eq_true rfl) dX10_told_17 (fun H locs hw tr104 => ?_)
    refine lv_if_ne (tgt := 30) hx hb dX10_told_20 (by decide) (fun c => ?_) (fun c => ?_)
    · have hf := ifn hf c
      refine lv_aload_n hx hb dX10_told_30 rfl (lv_at hl 0 rfl) ?_
      refine lv_bipush hx hb dX10_told_31 kb_6 ?_
      refine lv_iload_n hx hb dX10_told_33 rfl (lv_at hl 1 rfl) ?_
      refine lv_iadd hx hb dX10_told_34 ?_
      obtain ⟨m105, cm105, hf⟩ := b1_el (o := f_X10_keeps a0 (6 + x1) m103) hf
      refine x_callVv (As := [.int (6 + x1)]) (rest := []) C hl.1 hw cb_X10_177 cv_X10_keeps (k_X10_keeps hw.2.2.2.2 ta0 cm105) ta0 rfl rfl (by decide) ⟨Nat.le_refl _, Nat.le_refl _⟩ rfl (Nat.le_of_ble_eq_true rfl) dX10_told_35 (fun H locs hw tm105 => ?_)
      refine lv_iconst hx hb dX10_told_38 ki_0 ?_
      exact x_retI C hr hk hw  hf (by decide) (by decide) dX10_told_39
    · have hf := ifp hf c
      refine lv_iconst hx hb dX10_told_23 ki_m1 ?_
      refine lv_aload_n hx hb dX10_told_24 rfl (lv_at hl 0 rfl) ?_
      refine x_getI C hw fa_X10_129 ta0 dX10_told_25 ?_
      refine lv_isub hx hb dX10_told_28 ?_
      exact x_retI C hr hk hw  hf (by decide) (by decide) dX10_told_29
  · have hf := ifp hf c
    refine lv_aload_n hx hb dX10_told_9 rfl (lv_at hl 0 rfl) ?_
    refine lv_ldc hx hb C.2.2.2.1 (C.2.2.2.2.1 _ ki_X10_61) dX10_told_10 ?_
    obtain ⟨r107, m106, cm106, hf⟩ := b2_el (o := f_X10_finds a0 (-1000000001) m101) hf
    refine x_callVi (As := [.int (-1000000001)]) (rest := []) C hl.1 hw cb_X10_67 cv_X10_finds (k_X10_finds hw.2.2.2.2 ta0 cm106) ta0 rfl rfl (by decide) ⟨Nat.le_refl _, Nat.le_refl _⟩ rfl (Nat.le_of_ble_eq_true rfl) dX10_told_12 (fun H locs hw tr107 => ?_)
    exact x_retI C hr hk hw  hf (by decide) (by decide) dX10_told_15
set_option maxHeartbeats 4000000 in
set_option maxRecDepth 100000 in
theorem k_X10_top {l : Launch} {D : va_G} {E : Nat → ClassId} {tU : Nat} {τ : Nat → Option XTy} {a0 : Nat} {x1 : Int32} {x2 : Int32} {m0 mE : XMem} {rE : Int32} (hm : mT m0 = τ) (ta0 : τ a0 = some (.inl 10)) (hf : f_X10_top a0 x1 x2 m0 = some (rE, mE)) : Ct l yX10_top cX10_top 4 ((Option.some FieldType.int)) 3 0 0 D E tU [.ref a0, .int x1, .int x2] m0 (some (.int rE)) mE (mT mE = mT m0 ∧ True) := by
  subst hm
  refine Ct.of (by decide) (Nat.le_of_ble_eq_true rfl) (fun p e s m below meth c ls C hr hk hnm hl hw => ?_)
  have hx := C.1
  have hb := C.2.1
  have hl : lv_has ls 4 [(0, .ref a0), (1, .int x1), (2, .int x2)] := hl
  unfold f_X10_top at hf
  refine lv_aload_n hx hb dX10_top_0 rfl (lv_at hl 0 rfl) ?_
  refine lv_iload_n hx hb dX10_top_1 rfl (lv_at hl 1 rfl) ?_
  obtain ⟨r102, m101, cm101, hf⟩ := b2_el (o := f_X10_isCell a0 x1 m0) hf
  refine x_callVi (As := [.int x1]) (rest := []) C hl.1 hw cb_X10_76 cv_X10_isCell (k_X10_isCell hw.2.2.2.2 ta0 cm101) ta0 rfl rfl (by decide) ⟨Nat.le_refl _, Nat.le_refl _⟩ rfl (Nat.le_of_ble_eq_true rfl) dX10_top_2 (fun H locs hw tr102 => ?_)
  refine lv_if_eq (tgt := 19) hx hb dX10_top_5 (by decide) (fun c => ?_) (fun c => ?_)
  · have hf := ifp hf c
    refine lv_aload_n hx hb dX10_top_19 rfl (lv_at hl 0 rfl) ?_
    refine lv_ldc hx hb C.2.2.2.1 (C.2.2.2.2.1 _ ki_X10_61) dX10_top_20 ?_
    obtain ⟨r104, m103, cm103, hf⟩ := b2_el (o := f_X10_finds a0 (-1000000001) m101) hf
    refine x_callVi (As := [.int (-1000000001)]) (rest := []) C hl.1 hw cb_X10_67 cv_X10_finds (k_X10_finds hw.2.2.2.2 ta0 cm103) ta0 rfl rfl (by decide) ⟨Nat.le_refl _, Nat.le_refl _⟩ rfl (Nat.le_of_ble_eq_true rfl) dX10_top_22 (fun H locs hw tr104 => ?_)
    exact x_retI C hr hk hw  hf (by decide) (by decide) dX10_top_25
  · have hf := ifn hf c
    refine lv_iload_n hx hb dX10_top_8 rfl (lv_at hl 2 rfl) ?_
    refine lv_iconst hx hb dX10_top_9 ki_1 ?_
    refine lv_sipush hx hb dX10_top_10 ks_9999 ?_
    obtain ⟨r106, m105, cm105, hf⟩ := b2_el (o := f_X10_within x2 1 9999 m101) hf
    refine x_callSi (As := [.int x2, .int 1, .int 9999]) (rest := []) C hl.1 hw cb_X10_62 cs_X10_within (k_X10_within hw.2.2.2.2  cm105) rfl (by decide) ⟨Nat.le_refl _, Nat.le_refl _⟩ rfl (Nat.le_of_ble_eq_true rfl) dX10_top_13 (fun H locs hw tr106 => ?_)
    refine lv_if_ne (tgt := 26) hx hb dX10_top_16 (by decide) (fun c => ?_) (fun c => ?_)
    · have hf := ifn hf c
      refine lv_aload_n hx hb dX10_top_26 rfl (lv_at hl 0 rfl) ?_
      refine lv_iload_n hx hb dX10_top_27 rfl (lv_at hl 1 rfl) ?_
      refine lv_iconst hx hb dX10_top_28 ki_5 ?_
      obtain ⟨r108, m107, cm107, hf⟩ := b2_el (o := f_X10_ofCell a0 x1 5 m105) hf
      refine x_callVi (As := [.int x1, .int 5]) (rest := []) C hl.1 hw cb_X10_80 cv_X10_ofCell (k_X10_ofCell hw.2.2.2.2 ta0 cm107) ta0 rfl rfl (by decide) ⟨Nat.le_refl _, Nat.le_refl _⟩ rfl (Nat.le_of_ble_eq_true rfl) dX10_top_29 (fun H locs hw tr108 => ?_)
      refine lv_iload_n hx hb dX10_top_32 rfl (lv_at hl 2 rfl) ?_
      refine lv_iadd hx hb dX10_top_33 ?_
      refine lv_topi (fun x109 ex109 => ?_)
      have hf := nm_el hf ex109
      refine lv_istore_n (lv' := [(3, .int x109), (0, .ref a0), (1, .int x1), (2, .int x2)]) hx hb dX10_top_34 rfl hl (by decide) rfl (fun ls hl => ?_)
      refine lv_aload_n hx hb dX10_top_35 rfl (lv_at hl 1 rfl) ?_
      refine lv_iload_n hx hb dX10_top_36 rfl (lv_at hl 2 rfl) ?_
      refine lv_iconst hx hb dX10_top_37 ki_5 ?_
      refine lv_iload_n hx hb dX10_top_38 rfl (lv_at hl 0 rfl) ?_
      refine lv_sipush hx hb dX10_top_39 ks_9999 ?_
      refine lv_icmp_le (tgt := 51) hx hb dX10_top_42 (by decide) (fun c => ?_) (fun c => ?_)
      · have hf := ifp hf c
        refine lv_iload_n hx hb dX10_top_51 rfl (lv_at hl 0 rfl) ?_
        obtain ⟨m110, cm110, hf⟩ := b1_el (o := f_X10_puts a0 x1 5 x109 m107) hf
        refine x_callVv (As := [.int x1, .int 5, .int x109]) (rest := []) C hl.1 hw cb_X10_72 cv_X10_puts (k_X10_puts hw.2.2.2.2 ta0 cm110) ta0 rfl rfl (by decide) ⟨Nat.le_refl _, Nat.le_refl _⟩ rfl (Nat.le_of_ble_eq_true rfl) dX10_top_52 (fun H locs hw tm110 => ?_)
        refine lv_aload_n hx hb dX10_top_55 rfl (lv_at hl 1 rfl) ?_
        refine lv_iload_n hx hb dX10_top_56 rfl (lv_at hl 2 rfl) ?_
        refine lv_iconst hx hb dX10_top_57 ki_5 ?_
        obtain ⟨r112, m111, cm111, hf⟩ := b2_el (o := f_X10_ofCell a0 x1 5 m110) hf
        refine x_callVi (As := [.int x1, .int 5]) (rest := []) C hl.1 hw cb_X10_80 cv_X10_ofCell (k_X10_ofCell hw.2.2.2.2 ta0 cm111) ta0 rfl rfl (by decide) ⟨Nat.le_refl _, Nat.le_refl _⟩ rfl (Nat.le_of_ble_eq_true rfl) dX10_top_58 (fun H locs hw tr112 => ?_)
        exact x_retI C hr hk hw  hf (by decide) (by decide) dX10_top_61
      · have hf := ifn hf c
        refine lv_sipush hx hb dX10_top_45 ks_9999 ?_
        refine lv_goto (tgt := 52) hx hb dX10_top_48 (by decide) ?_
        obtain ⟨m113, cm113, hf⟩ := b1_el (o := f_X10_puts a0 x1 5 9999 m107) hf
        refine x_callVv (As := [.int x1, .int 5, .int 9999]) (rest := []) C hl.1 hw cb_X10_72 cv_X10_puts (k_X10_puts hw.2.2.2.2 ta0 cm113) ta0 rfl rfl (by decide) ⟨Nat.le_refl _, Nat.le_refl _⟩ rfl (Nat.le_of_ble_eq_true rfl) dX10_top_52 (fun H locs hw tm113 => ?_)
        refine lv_aload_n hx hb dX10_top_55 rfl (lv_at hl 1 rfl) ?_
        refine lv_iload_n hx hb dX10_top_56 rfl (lv_at hl 2 rfl) ?_
        refine lv_iconst hx hb dX10_top_57 ki_5 ?_
        obtain ⟨r115, m114, cm114, hf⟩ := b2_el (o := f_X10_ofCell a0 x1 5 m113) hf
        refine x_callVi (As := [.int x1, .int 5]) (rest := []) C hl.1 hw cb_X10_80 cv_X10_ofCell (k_X10_ofCell hw.2.2.2.2 ta0 cm114) ta0 rfl rfl (by decide) ⟨Nat.le_refl _, Nat.le_refl _⟩ rfl (Nat.le_of_ble_eq_true rfl) dX10_top_58 (fun H locs hw tr115 => ?_)
        exact x_retI C hr hk hw  hf (by decide) (by decide) dX10_top_61
    · have hf := ifp hf c
      refine lv_aload_n hx hb dX10_top_19 rfl (lv_at hl 0 rfl) ?_
      refine lv_ldc hx hb C.2.2.2.1 (C.2.2.2.2.1 _ ki_X10_61) dX10_top_20 ?_
      obtain ⟨r117, m116, cm116, hf⟩ := b2_el (o := f_X10_finds a0 (-1000000001) m105) hf
      refine x_callVi (As := [.int (-1000000001)]) (rest := []) C hl.1 hw cb_X10_67 cv_X10_finds (k_X10_finds hw.2.2.2.2 ta0 cm116) ta0 rfl rfl (by decide) ⟨Nat.le_refl _, Nat.le_refl _⟩ rfl (Nat.le_of_ble_eq_true rfl) dX10_top_22 (fun H locs hw tr117 => ?_)
      exact x_retI C hr hk hw  hf (by decide) (by decide) dX10_top_25
set_option maxHeartbeats 4000000 in
set_option maxRecDepth 100000 in
theorem w_X10_undo_h43 {p : Program} {l : Launch} {e : Env} {s : State} {m : MethodId} {args : Array Value} {below : List Frame} {meth : Method} {c : Code} {D : va_G} {E : Nat → ClassId} {tU : Nat} {m0 mE : XMem} {rE : Int32} (C : Cx p s m args c cX10_undo 2 RX10 D E (Am m0) tU) (hr : meth.sig.returnType = ((Option.some FieldType.int))) (hk : meth.locks = false) (hnm : meth.name = yX10_undo.name) {a0 : Nat} (ta0 : mT m0 a0 = some (.inl 10)) {k67 :  XMem → Option (Int32 × XMem)} (hk67 : ∀  (mu : XMem) (H : Heap) (locs : List Loc) (ls : Array Slot), lv_has ls 2 [(0, .ref a0)] → Wd D E (Am m0) s (mT m0) mu H locs →   k67  mu = some (rE, mE) → W p l e (rmN 2 0 0) s m args below meth c H locs 0 0 (MQ below (XQ D E (Am m0) (some (.int rE)) mE (mT mE = mT m0 ∧ True)) args s 0 0 (Am m0)) (F0 m 67 ls [])) : ∀ (n : Nat) (x1 : Int32) (mu : XMem) (H : Heap) (locs : List Loc) (ls : Array Slot), lv_has ls 2 [(0, .ref a0), (1, .int x1)] → Wd D E (Am m0) s (mT m0) mu H locs → f_X10_undo_h43 a0 k67 n x1 mu = some (rE, mE) → W p l e (rmN 2 0 0) s m args below meth c H locs 0 0 (MQ below (XQ D E (Am m0) (some (.int rE)) mE (mT mE = mT m0 ∧ True)) args s 0 0 (Am m0)) (F0 m 43 ls []) := by
  have hx := C.1
  have hb := C.2.1
  intro n
  induction n with
  | zero =>
    intros
    rename_i hf
    cases hf
  | succ n ih =>
    intro x1 mu H locs ls hl hw hf
    rw [f_X10_undo_h43] at hf
    refine lv_iload_n hx hb dX10_undo_43 rfl (lv_at hl 1 rfl) ?_
    refine lv_bipush hx hb dX10_undo_44 kb_16 ?_
    refine lv_icmp_ge (tgt := 67) hx hb dX10_undo_46 (by decide) (fun c => ?_) (fun c => ?_)
    · have hf := ifp hf c
      exact hk67 _ _ _ _ (lv_sub hl [0] rfl) hw hf
    · have hf := ifn hf c
      refine lv_aload_n hx hb dX10_undo_49 rfl (lv_at hl 0 rfl) ?_
      obtain ⟨b113, eb113, hf⟩ := fo_el hf
      refine x_getR C hw fa_X10_16 (Or.inr ⟨_, rfl⟩) ta0 eb113 dX10_undo_50 (fun tb113 => ?_)
      have tb113 : ∃ n, (mT m0) b113 = some (.inr (2, n)) := tb113
      refine lv_iload_n hx hb dX10_undo_53 rfl (lv_at hl 1 rfl) ?_
      refine lv_aload_n hx hb dX10_undo_54 rfl (lv_at hl 0 rfl) ?_
      obtain ⟨b114, eb114, hf⟩ := fo_el hf
      refine x_getR C hw fa_X10_20 (Or.inr ⟨_, rfl⟩) ta0 eb114 dX10_undo_55 (fun tb114 => ?_)
      have tb114 : ∃ n, (mT m0) b114 = some (.inr (2, n)) := tb114
      refine lv_iload_n hx hb dX10_undo_58 rfl (lv_at hl 1 rfl) ?_
      obtain ⟨g115, hf⟩ := gd_el hf
      refine x_lald C hw tb114 g115 dX10_undo_59 ?_
      obtain ⟨g116, hf⟩ := gd_el hf
      refine x_last C hw tb113 g116 dX10_undo_60 (fun m117 H locs em117 hw => ?_)
      have hf := nm_el hf em117
      obtain ⟨x118, ex118⟩ : ∃ z : Int32, z = x1 + 1 := ⟨_, rfl⟩
      have hf := nm_el hf ex118
      refine lv_iinc (v := x118) (lv' := [(1, .int x118), (0, .ref a0)]) hx hb dX10_undo_61 hl (k := 1) rfl (by rw [ex118, ki_1]) (by decide) rfl (fun ls hl => ?_)
      refine lv_goto (tgt := 43) hx hb dX10_undo_64 (by decide) ?_
      exact ih _ _ _ _ _ (lv_sub hl [1, 0] rfl) hw hf
set_option maxHeartbeats 4000000 in
set_option maxRecDepth 100000 in
theorem w_X10_undo_h16 {p : Program} {l : Launch} {e : Env} {s : State} {m : MethodId} {args : Array Value} {below : List Frame} {meth : Method} {c : Code} {D : va_G} {E : Nat → ClassId} {tU : Nat} {m0 mE : XMem} {rE : Int32} (C : Cx p s m args c cX10_undo 2 RX10 D E (Am m0) tU) (hr : meth.sig.returnType = ((Option.some FieldType.int))) (hk : meth.locks = false) (hnm : meth.name = yX10_undo.name) {a0 : Nat} (ta0 : mT m0 a0 = some (.inl 10)) {k41 :  XMem → Option (Int32 × XMem)} (hk41 : ∀  (mu : XMem) (H : Heap) (locs : List Loc) (ls : Array Slot), lv_has ls 2 [(0, .ref a0)] → Wd D E (Am m0) s (mT m0) mu H locs →   k41  mu = some (rE, mE) → W p l e (rmN 2 0 0) s m args below meth c H locs 0 0 (MQ below (XQ D E (Am m0) (some (.int rE)) mE (mT mE = mT m0 ∧ True)) args s 0 0 (Am m0)) (F0 m 41 ls [])) : ∀ (n : Nat) (x1 : Int32) (mu : XMem) (H : Heap) (locs : List Loc) (ls : Array Slot), lv_has ls 2 [(0, .ref a0), (1, .int x1)] → Wd D E (Am m0) s (mT m0) mu H locs → f_X10_undo_h16 a0 k41 n x1 mu = some (rE, mE) → W p l e (rmN 2 0 0) s m args below meth c H locs 0 0 (MQ below (XQ D E (Am m0) (some (.int rE)) mE (mT mE = mT m0 ∧ True)) args s 0 0 (Am m0)) (F0 m 16 ls []) := by
  have hx := C.1
  have hb := C.2.1
  intro n
  induction n with
  | zero =>
    intros
    rename_i hf
    cases hf
  | succ n ih =>
    intro x1 mu H locs ls hl hw hf
    rw [f_X10_undo_h16] at hf
    refine lv_iload_n hx hb dX10_undo_16 rfl (lv_at hl 1 rfl) ?_
    refine lv_sipush hx hb dX10_undo_17 ks_1059 ?_
    refine lv_icmp_ge (tgt := 41) hx hb dX10_undo_20 (by decide) (fun c => ?_) (fun c => ?_)
    · have hf := ifp hf c
      exact hk41 _ _ _ _ (lv_sub hl [0] rfl) hw hf
    · have hf := ifn hf c
      refine lv_aload_n hx hb dX10_undo_23 rfl (lv_at hl 0 rfl) ?_
      obtain ⟨b107, eb107, hf⟩ := fo_el hf
      refine x_getR C hw fa_X10_7 (Or.inr ⟨_, rfl⟩) ta0 eb107 dX10_undo_24 (fun tb107 => ?_)
      have tb107 : ∃ n, (mT m0) b107 = some (.inr (0, n)) := tb107
      refine lv_iload_n hx hb dX10_undo_27 rfl (lv_at hl 1 rfl) ?_
      refine lv_aload_n hx hb dX10_undo_28 rfl (lv_at hl 0 rfl) ?_
      obtain ⟨b108, eb108, hf⟩ := fo_el hf
      refine x_getR C hw fa_X10_13 (Or.inr ⟨_, rfl⟩) ta0 eb108 dX10_undo_29 (fun tb108 => ?_)
      have tb108 : ∃ n, (mT m0) b108 = some (.inr (0, n)) := tb108
      refine lv_iload_n hx hb dX10_undo_32 rfl (lv_at hl 1 rfl) ?_
      obtain ⟨g109, hf⟩ := gd_el hf
      refine x_iald C hw tb108 g109 dX10_undo_33 ?_
      obtain ⟨g110, hf⟩ := gd_el hf
      refine x_iast C hw tb107 g110 dX10_undo_34 (fun m111 H locs em111 hw => ?_)
      have hf := nm_el hf em111
      obtain ⟨x112, ex112⟩ : ∃ z : Int32, z = x1 + 1 := ⟨_, rfl⟩
      have hf := nm_el hf ex112
      refine lv_iinc (v := x112) (lv' := [(1, .int x112), (0, .ref a0)]) hx hb dX10_undo_35 hl (k := 1) rfl (by rw [ex112, ki_1]) (by decide) rfl (fun ls hl => ?_)
      refine lv_goto (tgt := 16) hx hb dX10_undo_38 (by decide) ?_
      exact ih _ _ _ _ _ (lv_sub hl [1, 0] rfl) hw hf
set_option maxHeartbeats 4000000 in
set_option maxRecDepth 100000 in
theorem k_X10_undo {l : Launch} {D : va_G} {E : Nat → ClassId} {tU : Nat} {τ : Nat → Option XTy} {a0 : Nat} {m0 mE : XMem} {rE : Int32} (hm : mT m0 = τ) (ta0 : τ a0 = some (.inl 10)) (hf : f_X10_undo a0 m0 = some (rE, mE)) : Ct l yX10_undo cX10_undo 2 ((Option.some FieldType.int)) 2 0 0 D E tU [.ref a0] m0 (some (.int rE)) mE (mT mE = mT m0 ∧ True) := by
  subst hm
  refine Ct.of (by decide) (Nat.le_of_ble_eq_true rfl) (fun p e s m below meth c ls C hr hk hnm hl hw => ?_)
  have hx := C.1
  have hb := C.2.1
  have hl : lv_has ls 2 [(0, .ref a0)] := hl
  unfold f_X10_undo at hf
  refine lv_aload_n hx hb dX10_undo_0 rfl (lv_at hl 0 rfl) ?_
  refine x_getZ C hw fa_X10_245 ta0 dX10_undo_1 ?_
  refine lv_if_ne (tgt := 14) hx hb dX10_undo_4 (by decide) (fun c => ?_) (fun c => ?_)
  · have hf := ifn hf c
    refine lv_iconst hx hb dX10_undo_14 ki_0 ?_
    refine lv_istore_n (lv' := [(1, .int 0), (0, .ref a0)]) hx hb dX10_undo_15 rfl hl (by decide) rfl (fun ls hl => ?_)
    refine w_X10_undo_h16 C hr hk hnm ta0 ?_ 2000 _ _ _ _ _ (lv_sub hl [1, 0] rfl) hw hf
    intro m101 H locs ls hl hw hf
    refine lv_iconst hx hb dX10_undo_41 ki_0 ?_
    refine lv_istore_n (lv' := [(1, .int 0), (0, .ref a0)]) hx hb dX10_undo_42 rfl hl (by decide) rfl (fun ls hl => ?_)
    refine w_X10_undo_h43 C hr hk hnm ta0 ?_ 2000 _ _ _ _ _ (lv_sub hl [1, 0] rfl) hw hf
    intro m102 H locs ls hl hw hf
    refine lv_aload_n hx hb dX10_undo_67 rfl (lv_at hl 0 rfl) ?_
    obtain ⟨b103, eb103, hf⟩ := fo_el hf
    refine x_getR C hw fa_X10_7 (Or.inr ⟨_, rfl⟩) ta0 eb103 dX10_undo_68 (fun tb103 => ?_)
    have tb103 : ∃ n, (mT m0) b103 = some (.inr (0, n)) := tb103
    refine lv_iconst hx hb dX10_undo_71 ki_0 ?_
    obtain ⟨g104, hf⟩ := gd_el hf
    refine x_iald C hw tb103 g104 dX10_undo_72 ?_
    exact x_retI C hr hk hw  hf (by decide) (by decide) dX10_undo_73
  · have hf := ifp hf c
    refine lv_aload_n hx hb dX10_undo_7 rfl (lv_at hl 0 rfl) ?_
    refine lv_ldc hx hb C.2.2.2.1 (C.2.2.2.2.1 _ ki_X10_207) dX10_undo_8 ?_
    obtain ⟨r106, m105, cm105, hf⟩ := b2_el (o := f_X10_finds a0 (-1000000004) m0) hf
    refine x_callVi (As := [.int (-1000000004)]) (rest := []) C hl.1 hw cb_X10_67 cv_X10_finds (k_X10_finds hw.2.2.2.2 ta0 cm105) ta0 rfl rfl (by decide) ⟨Nat.le_refl _, Nat.le_refl _⟩ rfl (Nat.le_of_ble_eq_true rfl) dX10_undo_10 (fun H locs hw tr106 => ?_)
    exact x_retI C hr hk hw  hf (by decide) (by decide) dX10_undo_13
set_option maxHeartbeats 4000000 in
set_option maxRecDepth 100000 in
theorem w_X10_weeks_h50 {p : Program} {l : Launch} {e : Env} {s : State} {m : MethodId} {args : Array Value} {below : List Frame} {meth : Method} {c : Code} {D : va_G} {E : Nat → ClassId} {tU : Nat} {m0 mE : XMem} {rE : Int32} (C : Cx p s m args c cX10_weeks 7 RX10 D E (Am m0) tU) (hr : meth.sig.returnType = ((Option.some FieldType.int))) (hk : meth.locks = false) (hnm : meth.name = yX10_weeks.name) {a0 : Nat} {x1 : Int32} {x2 : Int32} (ta0 : mT m0 a0 = some (.inl 10)) {k125 : Int32 →  XMem → Option (Int32 × XMem)} (hk125 : ∀ (y3 : Int32) (mu : XMem) (H : Heap) (locs : List Loc) (ls : Array Slot), lv_has ls 7 [(3, .int y3)] → Wd D E (Am m0) s (mT m0) mu H locs →   k125 y3 mu = some (rE, mE) → W p l e (rmN 8 0 0) s m args below meth c H locs 0 0 (MQ below (XQ D E (Am m0) (some (.int rE)) mE (mT mE = mT m0 ∧ True)) args s 0 0 (Am m0)) (F0 m 125 ls [])) : ∀ (n : Nat) (x3 : Int32) (x4 : Int32) (mu : XMem) (H : Heap) (locs : List Loc) (ls : Array Slot), lv_has ls 7 [(0, .ref a0), (1, .int x1), (2, .int x2), (3, .int x3), (4, .int x4)] → Wd D E (Am m0) s (mT m0) mu H locs → f_X10_weeks_h50 a0 x1 x2 k125 n x3 x4 mu = some (rE, mE) → W p l e (rmN 8 0 0) s m args below meth c H locs 0 0 (MQ below (XQ D E (Am m0) (some (.int rE)) mE (mT mE = mT m0 ∧ True)) args s 0 0 (Am m0)) (F0 m 50 ls []) := by
  have hx := C.1
  have hb := C.2.1
  intro n
  induction n with
  | zero =>
    intros
    rename_i hf
    cases hf
  | succ n ih =>
    intro x3 x4 mu H locs ls hl hw hf
    rw [f_X10_weeks_h50] at hf
    refine lv_iload hx hb dX10_weeks_50 (lv_at hl 4 rfl) ?_
    refine lv_aload_n hx hb dX10_weeks_52 rfl (lv_at hl 0 rfl) ?_
    obtain ⟨b115, eb115, hf⟩ := fo_el hf
    refine x_getR C hw fa_X10_52 (Or.inr ⟨_, rfl⟩) ta0 eb115 dX10_weeks_53 (fun tb115 => ?_)
    have tb115 : ∃ n, (mT m0) b115 = some (.inr (0, n)) := tb115
    refine lv_iload_n hx hb dX10_weeks_56 rfl (lv_at hl 1 rfl) ?_
    obtain ⟨g116, hf⟩ := gd_el hf
    refine x_iald C hw tb115 g116 dX10_weeks_57 ?_
    refine lv_icmp_ge (tgt := 125) hx hb dX10_weeks_58 (by decide) (fun c => ?_) (fun c => ?_)
    · have hf := ifp hf c
      exact hk125 _ _ _ _ _ (lv_sub hl [3] rfl) hw hf
    · have hf := ifn hf c
      refine lv_aload_n hx hb dX10_weeks_61 rfl (lv_at hl 0 rfl) ?_
      obtain ⟨b117, eb117, hf⟩ := fo_el hf
      refine x_getR C hw fa_X10_7 (Or.inr ⟨_, rfl⟩) ta0 eb117 dX10_weeks_62 (fun tb117 => ?_)
      have tb117 : ∃ n, (mT m0) b117 = some (.inr (0, n)) := tb117
      refine lv_iconst hx hb dX10_weeks_65 ki_0 ?_
      obtain ⟨g118, hf⟩ := gd_el hf
      refine x_iald C hw tb117 g118 dX10_weeks_66 ?_
      refine lv_sipush hx hb dX10_weeks_67 ks_2000 ?_
      refine lv_icmp_ge (tgt := 125) hx hb dX10_weeks_70 (by decide) (fun c => ?_) (fun c => ?_)
      · have hf := ifp hf c
        exact hk125 _ _ _ _ _ (lv_sub hl [3] rfl) hw hf
      · have hf := ifn hf c
        refine lv_aload_n hx hb dX10_weeks_73 rfl (lv_at hl 0 rfl) ?_
        obtain ⟨b119, eb119, hf⟩ := fo_el hf
        refine x_getR C hw fa_X10_55 (Or.inr ⟨_, rfl⟩) ta0 eb119 dX10_weeks_74 (fun tb119 => ?_)
        have tb119 : ∃ n, (mT m0) b119 = some (.inr (2, n)) := tb119
        refine lv_bipush hx hb dX10_weeks_77 kb_40 ?_
        refine lv_iload_n hx hb dX10_weeks_79 rfl (lv_at hl 1 rfl) ?_
        refine lv_imul hx hb dX10_weeks_80 ?_
        refine lv_iload hx hb dX10_weeks_81 (lv_at hl 4 rfl) ?_
        refine lv_iadd hx hb dX10_weeks_83 ?_
        obtain ⟨g120, hf⟩ := gd_el hf
        refine x_lald C hw tb119 g120 dX10_weeks_84 ?_
        refine lv_topl (fun l121 el121 => ?_)
        have hf := nm_el hf el121
        refine lv_lstore (lv' := [(5, .long l121), (0, .ref a0), (1, .int x1), (2, .int x2), (3, .int x3), (4, .int x4)]) hx hb dX10_weeks_85 hl (by decide) rfl (fun ls hl => ?_)
        refine lv_lload hx hb dX10_weeks_87 (lv_at hl 0 rfl) ?_
        refine lv_lconst hx hb dX10_weeks_89 kl_0 ?_
        refine W.lcmp hx hb dX10_weeks_90 ?_
        refine lv_if_lt (tgt := 119) hx hb dX10_weeks_91 (by decide) (fun c => ?_) (fun c => ?_)
        · have hf := ifp hf c
          obtain ⟨x122, ex122⟩ : ∃ z : Int32, z = x4 + 1 := ⟨_, rfl⟩
          have hf := nm_el hf ex122
          refine lv_iinc (v := x122) (lv' := [(4, .int x122), (5, .long l121), (0, .ref a0), (1, .int x1), (2, .int x2), (3, .int x3)]) hx hb dX10_weeks_119 hl (k := 5) rfl (by rw [ex122, ki_1]) (by decide) rfl (fun ls hl => ?_)
          refine lv_goto (tgt := 50) hx hb dX10_weeks_122 (by decide) ?_
          exact ih _ _ _ _ _ _ (lv_sub hl [2, 3, 4, 5, 0] rfl) hw hf
        · have hf := ifn hf c
          refine lv_lload hx hb dX10_weeks_94 (lv_at hl 0 rfl) ?_
          refine lv_ldc2 hx hb C.2.2.2.1 (C.2.2.2.2.1 _ kl_X10_243) dX10_weeks_96 ?_
          refine W.lcmp hx hb dX10_weeks_99 ?_
          refine lv_if_gt (tgt := 119) hx hb dX10_weeks_100 (by decide) (fun c => ?_) (fun c => ?_)
          · have hf := ifp hf c
            obtain ⟨x123, ex123⟩ : ∃ z : Int32, z = x4 + 1 := ⟨_, rfl⟩
            have hf := nm_el hf ex123
            refine lv_iinc (v := x123) (lv' := [(4, .int x123), (5, .long l121), (0, .ref a0), (1, .int x1), (2, .int x2), (3, .int x3)]) hx hb dX10_weeks_119 hl (k := 5) rfl (by rw [ex123, ki_1]) (by decide) rfl (fun ls hl => ?_)
            refine lv_goto (tgt := 50) hx hb dX10_weeks_122 (by decide) ?_
            exact ih _ _ _ _ _ _ (lv_sub hl [2, 3, 4, 5, 0] rfl) hw hf
          · have hf := ifn hf c
            refine lv_aload_n hx hb dX10_weeks_103 rfl (lv_at hl 1 rfl) ?_
            refine lv_iload_n hx hb dX10_weeks_104 rfl (lv_at hl 3 rfl) ?_
            refine lv_iconst hx hb dX10_weeks_105 ki_1 ?_
            refine lv_lload hx hb dX10_weeks_106 (lv_at hl 0 rfl) ?_
            refine lv_l2i (v := (Int64.toInt32 l121)) hx hb dX10_weeks_108 rfl ?_
            obtain ⟨m124, cm124, hf⟩ := b1_el (o := f_X10_puts a0 x2 1 (Int64.toInt32 l121) mu) hf
            refine x_callVv (As := [.int x2, .int 1, .int (Int64.toInt32 l121)]) (rest := []) C hl.1 hw cb_X10_72 cv_X10_puts (k_X10_puts hw.2.2.2.2 ta0 cm124) ta0 rfl rfl (by decide) ⟨Nat.le_refl _, Nat.le_refl _⟩ rfl (Nat.le_of_ble_eq_true rfl) dX10_weeks_109 (fun H locs hw tm124 => ?_)
            refine lv_aload_n hx hb dX10_weeks_112 rfl (lv_at hl 1 rfl) ?_
            obtain ⟨m125, cm125, hf⟩ := b1_el (o := f_X10_oneHour a0 m124) hf
            refine x_callVv (As := []) (rest := []) C hl.1 hw cb_X10_112 cv_X10_oneHour (k_X10_oneHour hw.2.2.2.2 ta0 cm125) ta0 rfl rfl (by decide) ⟨Nat.le_refl _, Nat.le_refl _⟩ rfl (Nat.le_of_ble_eq_true rfl) dX10_weeks_113 (fun H locs hw tm125 => ?_)
            obtain ⟨x126, ex126⟩ : ∃ z : Int32, z = x3 + 1 := ⟨_, rfl⟩
            have hf := nm_el hf ex126
            refine lv_iinc (v := x126) (lv' := [(3, .int x126), (5, .long l121), (0, .ref a0), (1, .int x1), (2, .int x2), (4, .int x4)]) hx hb dX10_weeks_116 hl (k := 4) rfl (by rw [ex126, ki_1]) (by decide) rfl (fun ls hl => ?_)
            obtain ⟨x127, ex127⟩ : ∃ z : Int32, z = x4 + 1 := ⟨_, rfl⟩
            have hf := nm_el hf ex127
            refine lv_iinc (v := x127) (lv' := [(4, .int x127), (3, .int x126), (5, .long l121), (0, .ref a0), (1, .int x1), (2, .int x2)]) hx hb dX10_weeks_119 hl (k := 5) rfl (by rw [ex127, ki_1]) (by decide) rfl (fun ls hl => ?_)
            refine lv_goto (tgt := 50) hx hb dX10_weeks_122 (by decide) ?_
            exact ih _ _ _ _ _ _ (lv_sub hl [3, 4, 5, 1, 0] rfl) hw hf
set_option maxHeartbeats 4000000 in
set_option maxRecDepth 100000 in
theorem k_X10_weeks {l : Launch} {D : va_G} {E : Nat → ClassId} {tU : Nat} {τ : Nat → Option XTy} {a0 : Nat} {x1 : Int32} {x2 : Int32} {m0 mE : XMem} {rE : Int32} (hm : mT m0 = τ) (ta0 : τ a0 = some (.inl 10)) (hf : f_X10_weeks a0 x1 x2 m0 = some (rE, mE)) : Ct l yX10_weeks cX10_weeks 7 ((Option.some FieldType.int)) 8 0 0 D E tU [.ref a0, .int x1, .int x2] m0 (some (.int rE)) mE (mT mE = mT m0 ∧ True) := by
  subst hm
  refine Ct.of (by decide) (Nat.le_of_ble_eq_true rfl) (fun p e s m below meth c ls C hr hk hnm hl hw => ?_)
  have hx := C.1
  have hb := C.2.1
  have hl : lv_has ls 7 [(0, .ref a0), (1, .int x1), (2, .int x2)] := hl
  unfold f_X10_weeks at hf
  refine lv_iload_n hx hb dX10_weeks_0 rfl (lv_at hl 1 rfl) ?_
  obtain ⟨r102, m101, cm101, hf⟩ := b2_el (o := f_X10_isSheet x1 m0) hf
  refine x_callSi (As := [.int x1]) (rest := []) C hl.1 hw cb_X10_238 cs_X10_isSheet (k_X10_isSheet hw.2.2.2.2  cm101) rfl (by decide) ⟨Nat.le_refl _, Nat.le_refl _⟩ rfl (Nat.le_of_ble_eq_true rfl) dX10_weeks_1 (fun H locs hw tr102 => ?_)
  refine lv_if_ne (tgt := 14) hx hb dX10_weeks_4 (by decide) (fun c => ?_) (fun c => ?_)
  · have hf := ifn hf c
    refine lv_aload_n hx hb dX10_weeks_14 rfl (lv_at hl 0 rfl) ?_
    obtain ⟨b103, eb103, hf⟩ := fo_el hf
    refine x_getR C hw fa_X10_49 (Or.inr ⟨_, rfl⟩) ta0 eb103 dX10_weeks_15 (fun tb103 => ?_)
    have tb103 : ∃ n, (mT m0) b103 = some (.inr (0, n)) := tb103
    refine lv_iload_n hx hb dX10_weeks_18 rfl (lv_at hl 1 rfl) ?_
    obtain ⟨g104, hf⟩ := gd_el hf
    refine x_iald C hw tb103 g104 dX10_weeks_19 ?_
    refine lv_if_ne (tgt := 30) hx hb dX10_weeks_20 (by decide) (fun c => ?_) (fun c => ?_)
    · have hf := ifn hf c
      refine lv_aload_n hx hb dX10_weeks_30 rfl (lv_at hl 0 rfl) ?_
      refine lv_iload_n hx hb dX10_weeks_31 rfl (lv_at hl 2 rfl) ?_
      obtain ⟨r106, m105, cm105, hf⟩ := b2_el (o := f_X10_isCell a0 x2 m101) hf
      refine x_callVi (As := [.int x2]) (rest := []) C hl.1 hw cb_X10_76 cv_X10_isCell (k_X10_isCell hw.2.2.2.2 ta0 cm105) ta0 rfl rfl (by decide) ⟨Nat.le_refl _, Nat.le_refl _⟩ rfl (Nat.le_of_ble_eq_true rfl) dX10_weeks_32 (fun H locs hw tr106 => ?_)
      refine lv_if_ne (tgt := 45) hx hb dX10_weeks_35 (by decide) (fun c => ?_) (fun c => ?_)
      · have hf := ifn hf c
        refine lv_iconst hx hb dX10_weeks_45 ki_0 ?_
        refine lv_istore_n (lv' := [(3, .int 0), (0, .ref a0), (1, .int x1), (2, .int x2)]) hx hb dX10_weeks_46 rfl hl (by decide) rfl (fun ls hl => ?_)
        refine lv_iconst hx hb dX10_weeks_47 ki_0 ?_
        refine lv_istore (lv' := [(4, .int 0), (3, .int 0), (0, .ref a0), (1, .int x1), (2, .int x2)]) hx hb dX10_weeks_48 hl (by decide) rfl (fun ls hl => ?_)
        refine w_X10_weeks_h50 C hr hk hnm ta0 ?_ 2000 _ _ _ _ _ _ (lv_sub hl [2, 3, 4, 1, 0] rfl) hw hf
        intro x108 m107 H locs ls hl hw hf
        refine lv_iload_n hx hb dX10_weeks_125 rfl (lv_at hl 0 rfl) ?_
        exact x_retI C hr hk hw  hf (by decide) (by decide) dX10_weeks_126
      · have hf := ifp hf c
        refine lv_aload_n hx hb dX10_weeks_38 rfl (lv_at hl 0 rfl) ?_
        refine lv_ldc hx hb C.2.2.2.1 (C.2.2.2.2.1 _ ki_X10_61) dX10_weeks_39 ?_
        obtain ⟨r110, m109, cm109, hf⟩ := b2_el (o := f_X10_finds a0 (-1000000001) m105) hf
        refine x_callVi (As := [.int (-1000000001)]) (rest := []) C hl.1 hw cb_X10_67 cv_X10_finds (k_X10_finds hw.2.2.2.2 ta0 cm109) ta0 rfl rfl (by decide) ⟨Nat.le_refl _, Nat.le_refl _⟩ rfl (Nat.le_of_ble_eq_true rfl) dX10_weeks_41 (fun H locs hw tr110 => ?_)
        exact x_retI C hr hk hw  hf (by decide) (by decide) dX10_weeks_44
    · have hf := ifp hf c
      refine lv_aload_n hx hb dX10_weeks_23 rfl (lv_at hl 0 rfl) ?_
      refine lv_ldc hx hb C.2.2.2.1 (C.2.2.2.2.1 _ ki_X10_241) dX10_weeks_24 ?_
      obtain ⟨r112, m111, cm111, hf⟩ := b2_el (o := f_X10_finds a0 (-1000000006) m101) hf
      refine x_callVi (As := [.int (-1000000006)]) (rest := []) C hl.1 hw cb_X10_67 cv_X10_finds (k_X10_finds hw.2.2.2.2 ta0 cm111) ta0 rfl rfl (by decide) ⟨Nat.le_refl _, Nat.le_refl _⟩ rfl (Nat.le_of_ble_eq_true rfl) dX10_weeks_26 (fun H locs hw tr112 => ?_)
      exact x_retI C hr hk hw  hf (by decide) (by decide) dX10_weeks_29
  · have hf := ifp hf c
    refine lv_aload_n hx hb dX10_weeks_7 rfl (lv_at hl 0 rfl) ?_
    refine lv_ldc hx hb C.2.2.2.1 (C.2.2.2.2.1 _ ki_X10_61) dX10_weeks_8 ?_
    obtain ⟨r114, m113, cm113, hf⟩ := b2_el (o := f_X10_finds a0 (-1000000001) m101) hf
    refine x_callVi (As := [.int (-1000000001)]) (rest := []) C hl.1 hw cb_X10_67 cv_X10_finds (k_X10_finds hw.2.2.2.2 ta0 cm113) ta0 rfl rfl (by decide) ⟨Nat.le_refl _, Nat.le_refl _⟩ rfl (Nat.le_of_ble_eq_true rfl) dX10_weeks_10 (fun H locs hw tr114 => ?_)
    exact x_retI C hr hk hw  hf (by decide) (by decide) dX10_weeks_13
set_option maxHeartbeats 4000000 in
set_option maxRecDepth 100000 in
theorem k_X10_wipe {l : Launch} {D : va_G} {E : Nat → ClassId} {tU : Nat} {τ : Nat → Option XTy} {a0 : Nat} {m0 mE : XMem} {rE : Int32} (hm : mT m0 = τ) (ta0 : τ a0 = some (.inl 10)) (hf : f_X10_wipe a0 m0 = some (rE, mE)) : Ct l yX10_wipe cX10_wipe 2 ((Option.some FieldType.int)) 1 0 0 D E tU [.ref a0] m0 (some (.int rE)) mE (mT mE = mT m0 ∧ True) := by
  subst hm
  refine Ct.of (by decide) (Nat.le_of_ble_eq_true rfl) (fun p e s m below meth c ls C hr hk hnm hl hw => ?_)
  have hx := C.1
  have hb := C.2.1
  have hl : lv_has ls 2 [(0, .ref a0)] := hl
  unfold f_X10_wipe at hf
  refine lv_aload_n hx hb dX10_wipe_0 rfl (lv_at hl 0 rfl) ?_
  refine x_getI C hw fa_X10_122 ta0 dX10_wipe_1 ?_
  refine lv_topi (fun x101 ex101 => ?_)
  have hf := nm_el hf ex101
  refine lv_istore_n (lv' := [(1, .int x101), (0, .ref a0)]) hx hb dX10_wipe_4 rfl hl (by decide) rfl (fun ls hl => ?_)
  refine lv_aload_n hx hb dX10_wipe_5 rfl (lv_at hl 1 rfl) ?_
  refine lv_iconst hx hb dX10_wipe_6 ki_0 ?_
  refine x_putI C hw fa_X10_122 ta0 dX10_wipe_7 (fun m102 H locs em102 hw => ?_)
  have hf := nm_el hf em102
  refine lv_iload_n hx hb dX10_wipe_10 rfl (lv_at hl 0 rfl) ?_
  exact x_retI C hr hk hw  hf (by decide) (by decide) dX10_wipe_11
set_option maxHeartbeats 4000000 in
set_option maxRecDepth 100000 in
theorem k_X10_write {l : Launch} {D : va_G} {E : Nat → ClassId} {tU : Nat} {τ : Nat → Option XTy} {a0 : Nat} {x1 : Int32} {x2 : Int32} {l3 : Int64} {m0 mE : XMem} {rE : Int64} (hm : mT m0 = τ) (ta0 : τ a0 = some (.inl 10)) (hf : f_X10_write a0 x1 x2 l3 m0 = some (rE, mE)) : Ct l yX10_write cX10_write 7 ((Option.some FieldType.long)) 3 0 0 D E tU [.ref a0, .int x1, .int x2, .long l3] m0 (some (.long rE)) mE (mT mE = mT m0 ∧ True) := by
  subst hm
  refine Ct.of (by decide) (Nat.le_of_ble_eq_true rfl) (fun p e s m below meth c ls C hr hk hnm hl hw => ?_)
  have hx := C.1
  have hb := C.2.1
  have hl : lv_has ls 7 [(0, .ref a0), (1, .int x1), (2, .int x2), (3, .long l3)] := hl
  unfold f_X10_write at hf
  refine lv_iload_n hx hb dX10_write_0 rfl (lv_at hl 1 rfl) ?_
  obtain ⟨r102, m101, cm101, hf⟩ := b2_el (o := f_X10_isSheet x1 m0) hf
  refine x_callSi (As := [.int x1]) (rest := []) C hl.1 hw cb_X10_238 cs_X10_isSheet (k_X10_isSheet hw.2.2.2.2  cm101) rfl (by decide) ⟨Nat.le_refl _, Nat.le_refl _⟩ rfl (Nat.le_of_ble_eq_true rfl) dX10_write_1 (fun H locs hw tr102 => ?_)
  refine lv_if_ne (tgt := 15) hx hb dX10_write_4 (by decide) (fun c => ?_) (fun c => ?_)
  · have hf := ifn hf c
    refine lv_aload_n hx hb dX10_write_15 rfl (lv_at hl 0 rfl) ?_
    obtain ⟨b103, eb103, hf⟩ := fo_el hf
    refine x_getR C hw fa_X10_49 (Or.inr ⟨_, rfl⟩) ta0 eb103 dX10_write_16 (fun tb103 => ?_)
    have tb103 : ∃ n, (mT m0) b103 = some (.inr (0, n)) := tb103
    refine lv_iload_n hx hb dX10_write_19 rfl (lv_at hl 1 rfl) ?_
    obtain ⟨g104, hf⟩ := gd_el hf
    refine x_iald C hw tb103 g104 dX10_write_20 ?_
    refine lv_if_ne (tgt := 32) hx hb dX10_write_21 (by decide) (fun c => ?_) (fun c => ?_)
    · have hf := ifn hf c
      refine lv_iload_n hx hb dX10_write_32 rfl (lv_at hl 2 rfl) ?_
      refine lv_iconst hx hb dX10_write_33 ki_0 ?_
      refine lv_aload_n hx hb dX10_write_34 rfl (lv_at hl 0 rfl) ?_
      obtain ⟨b105, eb105, hf⟩ := fo_el hf
      refine x_getR C hw fa_X10_52 (Or.inr ⟨_, rfl⟩) ta0 eb105 dX10_write_35 (fun tb105 => ?_)
      have tb105 : ∃ n, (mT m0) b105 = some (.inr (0, n)) := tb105
      refine lv_iload_n hx hb dX10_write_38 rfl (lv_at hl 1 rfl) ?_
      obtain ⟨g106, hf⟩ := gd_el hf
      refine x_iald C hw tb105 g106 dX10_write_39 ?_
      refine lv_iconst hx hb dX10_write_40 ki_1 ?_
      refine lv_isub hx hb dX10_write_41 ?_
      obtain ⟨r108, m107, cm107, hf⟩ := b2_el (o := f_X10_within x2 0 ((mI m101 b105 (Int32.toNatClampNeg x1)) - 1) m101) hf
      refine x_callSi (As := [.int x2, .int 0, .int ((mI m101 b105 (Int32.toNatClampNeg x1)) - 1)]) (rest := []) C hl.1 hw cb_X10_62 cs_X10_within (k_X10_within hw.2.2.2.2  cm107) rfl (by decide) ⟨Nat.le_refl _, Nat.le_refl _⟩ rfl (Nat.le_of_ble_eq_true rfl) dX10_write_42 (fun H locs hw tr108 => ?_)
      refine lv_if_ne (tgt := 56) hx hb dX10_write_45 (by decide) (fun c => ?_) (fun c => ?_)
      · have hf := ifn hf c
        refine lv_aload_n hx hb dX10_write_56 rfl (lv_at hl 0 rfl) ?_
        obtain ⟨b109, eb109, hf⟩ := fo_el hf
        refine x_getR C hw fa_X10_55 (Or.inr ⟨_, rfl⟩) ta0 eb109 dX10_write_57 (fun tb109 => ?_)
        have tb109 : ∃ n, (mT m0) b109 = some (.inr (2, n)) := tb109
        refine lv_bipush hx hb dX10_write_60 kb_40 ?_
        refine lv_iload_n hx hb dX10_write_62 rfl (lv_at hl 1 rfl) ?_
        refine lv_imul hx hb dX10_write_63 ?_
        refine lv_iload_n hx hb dX10_write_64 rfl (lv_at hl 2 rfl) ?_
        refine lv_iadd hx hb dX10_write_65 ?_
        obtain ⟨g110, hf⟩ := gd_el hf
        refine x_lald C hw tb109 g110 dX10_write_66 ?_
        refine lv_topl (fun l111 el111 => ?_)
        have hf := nm_el hf el111
        refine lv_lstore (lv' := [(5, .long l111), (0, .ref a0), (1, .int x1), (2, .int x2), (3, .long l3)]) hx hb dX10_write_67 hl (by decide) rfl (fun ls hl => ?_)
        refine lv_aload_n hx hb dX10_write_69 rfl (lv_at hl 1 rfl) ?_
        obtain ⟨b112, eb112, hf⟩ := fo_el hf
        refine x_getR C hw fa_X10_55 (Or.inr ⟨_, rfl⟩) ta0 eb112 dX10_write_70 (fun tb112 => ?_)
        have tb112 : ∃ n, (mT m0) b112 = some (.inr (2, n)) := tb112
        refine lv_bipush hx hb dX10_write_73 kb_40 ?_
        refine lv_iload_n hx hb dX10_write_75 rfl (lv_at hl 2 rfl) ?_
        refine lv_imul hx hb dX10_write_76 ?_
        refine lv_iload_n hx hb dX10_write_77 rfl (lv_at hl 3 rfl) ?_
        refine lv_iadd hx hb dX10_write_78 ?_
        refine lv_aload_n hx hb dX10_write_79 rfl (lv_at hl 1 rfl) ?_
        obtain ⟨b113, eb113, hf⟩ := fo_el hf
        refine x_getR C hw fa_X10_49 (Or.inr ⟨_, rfl⟩) ta0 eb113 dX10_write_80 (fun tb113 => ?_)
        have tb113 : ∃ n, (mT m0) b113 = some (.inr (0, n)) := tb113
        refine lv_iload_n hx hb dX10_write_83 rfl (lv_at hl 2 rfl) ?_
        obtain ⟨g114, hf⟩ := gd_el hf
        refine x_iald C hw tb113 g114 dX10_write_84 ?_
        refine lv_bipush hx hb dX10_write_85 kb_8 ?_
        refine lv_icmp_ne (tgt := 97) hx hb dX10_write_87 (by decide) (fun c => ?_) (fun c => ?_)
        · have hf := ifn hf c
          refine lv_aload_n hx hb dX10_write_97 rfl (lv_at hl 1 rfl) ?_
          obtain ⟨b115, eb115, hf⟩ := fo_el hf
          refine x_getR C hw fa_X10_49 (Or.inr ⟨_, rfl⟩) ta0 eb115 dX10_write_98 (fun tb115 => ?_)
          have tb115 : ∃ n, (mT m0) b115 = some (.inr (0, n)) := tb115
          refine lv_iload_n hx hb dX10_write_101 rfl (lv_at hl 2 rfl) ?_
          obtain ⟨g116, hf⟩ := gd_el hf
          refine x_iald C hw tb115 g116 dX10_write_102 ?_
          refine lv_bipush hx hb dX10_write_103 kb_16 ?_
          refine lv_icmp_ne (tgt := 115) hx hb dX10_write_105 (by decide) (fun c => ?_) (fun c => ?_)
          · have hf := ifn hf c
            refine lv_lload_n hx hb dX10_write_115 rfl (lv_at hl 4 rfl) ?_
            obtain ⟨g117, hf⟩ := gd_el hf
            refine x_last C hw tb112 g117 dX10_write_116 (fun m118 H locs em118 hw => ?_)
            have hf := nm_el hf em118
            refine lv_lload hx hb dX10_write_117 (lv_at hl 0 rfl) ?_
            exact x_retL C hr hk hw  hf (by decide) (by decide) dX10_write_119
          · have hf := ifp hf c
            refine lv_lload_n hx hb dX10_write_108 rfl (lv_at hl 4 rfl) ?_
            refine lv_l2i (v := (Int64.toInt32 l3)) hx hb dX10_write_109 rfl ?_
            refine lv_i2s (v := (Int16.toInt32 (Int32.toInt16 (Int64.toInt32 l3)))) hx hb dX10_write_110 rfl ?_
            refine lv_i2l (v := (Int32.toInt64 (Int16.toInt32 (Int32.toInt16 (Int64.toInt32 l3))))) hx hb dX10_write_111 rfl ?_
            refine lv_goto (tgt := 116) hx hb dX10_write_112 (by decide) ?_
            obtain ⟨g119, hf⟩ := gd_el hf
            refine x_last C hw tb112 g119 dX10_write_116 (fun m120 H locs em120 hw => ?_)
            have hf := nm_el hf em120
            refine lv_lload hx hb dX10_write_117 (lv_at hl 0 rfl) ?_
            exact x_retL C hr hk hw  hf (by decide) (by decide) dX10_write_119
        · have hf := ifp hf c
          refine lv_lload_n hx hb dX10_write_90 rfl (lv_at hl 4 rfl) ?_
          refine lv_l2i (v := (Int64.toInt32 l3)) hx hb dX10_write_91 rfl ?_
          refine lv_i2b (v := (Int8.toInt32 (Int32.toInt8 (Int64.toInt32 l3)))) hx hb dX10_write_92 rfl ?_
          refine lv_i2l (v := (Int32.toInt64 (Int8.toInt32 (Int32.toInt8 (Int64.toInt32 l3))))) hx hb dX10_write_93 rfl ?_
          refine lv_goto (tgt := 116) hx hb dX10_write_94 (by decide) ?_
          obtain ⟨g121, hf⟩ := gd_el hf
          refine x_last C hw tb112 g121 dX10_write_116 (fun m122 H locs em122 hw => ?_)
          have hf := nm_el hf em122
          refine lv_lload hx hb dX10_write_117 (lv_at hl 0 rfl) ?_
          exact x_retL C hr hk hw  hf (by decide) (by decide) dX10_write_119
      · have hf := ifp hf c
        refine lv_aload_n hx hb dX10_write_48 rfl (lv_at hl 0 rfl) ?_
        refine lv_ldc hx hb C.2.2.2.1 (C.2.2.2.2.1 _ ki_X10_61) dX10_write_49 ?_
        obtain ⟨r124, m123, cm123, hf⟩ := b2_el (o := f_X10_finds a0 (-1000000001) m107) hf
        refine x_callVi (As := [.int (-1000000001)]) (rest := []) C hl.1 hw cb_X10_67 cv_X10_finds (k_X10_finds hw.2.2.2.2 ta0 cm123) ta0 rfl rfl (by decide) ⟨Nat.le_refl _, Nat.le_refl _⟩ rfl (Nat.le_of_ble_eq_true rfl) dX10_write_51 (fun H locs hw tr124 => ?_)
        refine lv_i2l (v := (Int32.toInt64 r124)) hx hb dX10_write_54 rfl ?_
        exact x_retL C hr hk hw  hf (by decide) (by decide) dX10_write_55
    · have hf := ifp hf c
      refine lv_aload_n hx hb dX10_write_24 rfl (lv_at hl 0 rfl) ?_
      refine lv_ldc hx hb C.2.2.2.1 (C.2.2.2.2.1 _ ki_X10_241) dX10_write_25 ?_
      obtain ⟨r126, m125, cm125, hf⟩ := b2_el (o := f_X10_finds a0 (-1000000006) m101) hf
      refine x_callVi (As := [.int (-1000000006)]) (rest := []) C hl.1 hw cb_X10_67 cv_X10_finds (k_X10_finds hw.2.2.2.2 ta0 cm125) ta0 rfl rfl (by decide) ⟨Nat.le_refl _, Nat.le_refl _⟩ rfl (Nat.le_of_ble_eq_true rfl) dX10_write_27 (fun H locs hw tr126 => ?_)
      refine lv_i2l (v := (Int32.toInt64 r126)) hx hb dX10_write_30 rfl ?_
      exact x_retL C hr hk hw  hf (by decide) (by decide) dX10_write_31
  · have hf := ifp hf c
    refine lv_aload_n hx hb dX10_write_7 rfl (lv_at hl 0 rfl) ?_
    refine lv_ldc hx hb C.2.2.2.1 (C.2.2.2.2.1 _ ki_X10_61) dX10_write_8 ?_
    obtain ⟨r128, m127, cm127, hf⟩ := b2_el (o := f_X10_finds a0 (-1000000001) m101) hf
    refine x_callVi (As := [.int (-1000000001)]) (rest := []) C hl.1 hw cb_X10_67 cv_X10_finds (k_X10_finds hw.2.2.2.2 ta0 cm127) ta0 rfl rfl (by decide) ⟨Nat.le_refl _, Nat.le_refl _⟩ rfl (Nat.le_of_ble_eq_true rfl) dX10_write_10 (fun H locs hw tr128 => ?_)
    refine lv_i2l (v := (Int32.toInt64 r128)) hx hb dX10_write_13 rfl ?_
    exact x_retL C hr hk hw  hf (by decide) (by decide) dX10_write_14
set_option maxHeartbeats 4000000 in
set_option maxRecDepth 100000 in
theorem k_X1_addHour {l : Launch} {D : va_G} {E : Nat → ClassId} {tU : Nat} {τ : Nat → Option XTy} {a0 : Nat} {a1 : Nat} {m0 mE : XMem} (hm : mT m0 = τ) (ta0 : τ a0 = some (.inl 1)) (ta1 : τ a1 = some (.inl 0)) (hf : f_X1_addHour a0 a1 m0 = some mE) : Ct l yX1_addHour cX1_addHour 4 ((Option.none : Option FieldType)) 3 0 0 D E tU [.ref a0, .ref a1] m0 (none) mE (mT mE = mT m0 ∧ True) := by
  subst hm
  refine Ct.of (by decide) (Nat.le_of_ble_eq_true rfl) (fun p e s m below meth c ls C hr hk hnm hl hw => ?_)
  have hx := C.1
  have hb := C.2.1
  have hl : lv_has ls 4 [(0, .ref a0), (1, .ref a1)] := hl
  unfold f_X1_addHour at hf
  refine lv_aload_n hx hb dX1_addHour_0 rfl (lv_at hl 1 rfl) ?_
  obtain ⟨r102, m101, cm101, hf⟩ := b2_el (o := f_X0_thermometer a1 m0) hf
  refine x_callVi (As := []) (rest := []) C hl.1 hw cb_X1_66 cv_X0_thermometer (k_X0_thermometer hw.2.2.2.2 ta1 cm101) ta1 rfl rfl (by decide) ⟨Nat.le_refl _, Nat.le_refl _⟩ rfl (Nat.le_of_ble_eq_true rfl) dX1_addHour_1 (fun H locs hw tr102 => ?_)
  refine lv_i2l (v := (Int32.toInt64 r102)) hx hb dX1_addHour_4 rfl ?_
  refine lv_aload_n hx hb dX1_addHour_5 rfl (lv_at hl 0 rfl) ?_
  refine x_getI C hw fa_X1_44 ta0 dX1_addHour_6 ?_
  refine lv_i2l (v := (Int32.toInt64 (mI m101 a0 1))) hx hb dX1_addHour_9 rfl ?_
  refine lv_lmul hx hb dX1_addHour_10 ?_
  refine lv_topl (fun l103 el103 => ?_)
  have hf := nm_el hf el103
  refine lv_lstore_n (lv' := [(2, .long l103), (0, .ref a0), (1, .ref a1)]) hx hb dX1_addHour_11 rfl hl (by decide) rfl (fun ls hl => ?_)
  refine lv_aload_n hx hb dX1_addHour_12 rfl (lv_at hl 1 rfl) ?_
  refine lv_dup hx hb dX1_addHour_13 rfl ?_
  refine x_getI C hw fa_X1_9 ta0 dX1_addHour_14 ?_
  refine lv_iconst hx hb dX1_addHour_17 ki_1 ?_
  refine lv_iadd hx hb dX1_addHour_18 ?_
  refine x_putI C hw fa_X1_9 ta0 dX1_addHour_19 (fun m104 H locs em104 hw => ?_)
  have hf := nm_el hf em104
  refine lv_aload_n hx hb dX1_addHour_22 rfl (lv_at hl 1 rfl) ?_
  refine lv_dup hx hb dX1_addHour_23 rfl ?_
  refine x_getL C hw fa_X1_15 ta0 dX1_addHour_24 ?_
  refine lv_lload_n hx hb dX1_addHour_27 rfl (lv_at hl 0 rfl) ?_
  refine lv_aload_n hx hb dX1_addHour_28 rfl (lv_at hl 2 rfl) ?_
  refine x_getI C hw fa_X1_72 ta1 dX1_addHour_29 ?_
  refine lv_aload_n hx hb dX1_addHour_32 rfl (lv_at hl 2 rfl) ?_
  refine lv_aload_n hx hb dX1_addHour_33 rfl (lv_at hl 2 rfl) ?_
  refine x_getI C hw fa_X1_72 ta1 dX1_addHour_34 ?_
  obtain ⟨r106, m105, cm105, hf⟩ := b2_el (o := f_X0_gasFrom a1 (mI m104 a1 8) m104) hf
  refine x_callVi (As := [.int (mI m104 a1 8)]) (rest := [.int (mI m104 a1 8), .long l103, .long (mL m104 a0 6), .ref a0]) C hl.1 hw cb_X1_75 cv_X0_gasFrom (k_X0_gasFrom hw.2.2.2.2 ta1 cm105) ta1 rfl rfl (by decide) ⟨Nat.le_refl _, Nat.le_refl _⟩ rfl (Nat.le_of_ble_eq_true rfl) dX1_addHour_37 (fun H locs hw tr106 => ?_)
  refine lv_isub hx hb dX1_addHour_40 ?_
  refine lv_i2l (v := (Int32.toInt64 ((mI m104 a1 8) - r106))) hx hb dX1_addHour_41 rfl ?_
  refine lv_lsub hx hb dX1_addHour_42 ?_
  refine lv_ladd hx hb dX1_addHour_43 ?_
  refine x_putL C hw fa_X1_15 ta0 dX1_addHour_44 (fun m107 H locs em107 hw => ?_)
  have hf := nm_el hf em107
  refine lv_aload_n hx hb dX1_addHour_47 rfl (lv_at hl 1 rfl) ?_
  refine lv_dup hx hb dX1_addHour_48 rfl ?_
  refine x_getL C hw fa_X1_19 ta0 dX1_addHour_49 ?_
  refine lv_lload_n hx hb dX1_addHour_52 rfl (lv_at hl 0 rfl) ?_
  refine lv_aload_n hx hb dX1_addHour_53 rfl (lv_at hl 2 rfl) ?_
  refine x_getI C hw fa_X1_72 ta1 dX1_addHour_54 ?_
  refine lv_i2l (v := (Int32.toInt64 (mI m107 a1 8))) hx hb dX1_addHour_57 rfl ?_
  refine lv_lsub hx hb dX1_addHour_58 ?_
  refine lv_ladd hx hb dX1_addHour_59 ?_
  refine x_putL C hw fa_X1_19 ta0 dX1_addHour_60 (fun m108 H locs em108 hw => ?_)
  have hf := nm_el hf em108
  exact x_ret C hr hk hw  hf (by decide) (by decide) dX1_addHour_63
set_option maxHeartbeats 4000000 in
set_option maxRecDepth 100000 in
theorem k_X1_balance {l : Launch} {D : va_G} {E : Nat → ClassId} {tU : Nat} {τ : Nat → Option XTy} {a0 : Nat} {m0 mE : XMem} {rE : Int64} (hm : mT m0 = τ) (ta0 : τ a0 = some (.inl 1)) (hf : f_X1_balance a0 m0 = some (rE, mE)) : Ct l yX1_balance cX1_balance 1 ((Option.some FieldType.long)) 1 0 0 D E tU [.ref a0] m0 (some (.long rE)) mE (mT mE = mT m0 ∧ True) := by
  subst hm
  refine Ct.of (by decide) (Nat.le_of_ble_eq_true rfl) (fun p e s m below meth c ls C hr hk hnm hl hw => ?_)
  have hx := C.1
  have hb := C.2.1
  have hl : lv_has ls 1 [(0, .ref a0)] := hl
  unfold f_X1_balance at hf
  refine lv_aload_n hx hb dX1_balance_0 rfl (lv_at hl 0 rfl) ?_
  refine x_getI C hw fa_X1_47 ta0 dX1_balance_1 ?_
  refine lv_iconst hx hb dX1_balance_4 ki_1 ?_
  refine lv_icmp_ne (tgt := 15) hx hb dX1_balance_5 (by decide) (fun c => ?_) (fun c => ?_)
  · have hf := ifn hf c
    refine lv_aload_n hx hb dX1_balance_15 rfl (lv_at hl 0 rfl) ?_
    refine x_getL C hw fa_X1_15 ta0 dX1_balance_16 ?_
    exact x_retL C hr hk hw  hf (by decide) (by decide) dX1_balance_19
  · have hf := ifp hf c
    refine lv_aload_n hx hb dX1_balance_8 rfl (lv_at hl 0 rfl) ?_
    refine x_getL C hw fa_X1_19 ta0 dX1_balance_9 ?_
    refine lv_goto (tgt := 19) hx hb dX1_balance_12 (by decide) ?_
    exact x_retL C hr hk hw  hf (by decide) (by decide) dX1_balance_19
set_option maxHeartbeats 4000000 in
set_option maxRecDepth 100000 in
theorem k_X1_begin {l : Launch} {D : va_G} {E : Nat → ClassId} {tU : Nat} {τ : Nat → Option XTy} {a0 : Nat} {m0 mE : XMem} (hm : mT m0 = τ) (ta0 : τ a0 = some (.inl 1)) (hf : f_X1_begin a0 m0 = some mE) : Ct l yX1_begin cX1_begin 1 ((Option.none : Option FieldType)) 1 0 0 D E tU [.ref a0] m0 (none) mE (mT mE = mT m0 ∧ True) := by
  subst hm
  refine Ct.of (by decide) (Nat.le_of_ble_eq_true rfl) (fun p e s m below meth c ls C hr hk hnm hl hw => ?_)
  have hx := C.1
  have hb := C.2.1
  have hl : lv_has ls 1 [(0, .ref a0)] := hl
  unfold f_X1_begin at hf
  refine lv_aload_n hx hb dX1_begin_0 rfl (lv_at hl 0 rfl) ?_
  refine lv_iconst hx hb dX1_begin_1 ki_0 ?_
  refine x_putI C hw fa_X1_9 ta0 dX1_begin_2 (fun m101 H locs em101 hw => ?_)
  have hf := nm_el hf em101
  refine lv_aload_n hx hb dX1_begin_5 rfl (lv_at hl 0 rfl) ?_
  refine lv_lconst hx hb dX1_begin_6 kl_0 ?_
  refine x_putL C hw fa_X1_15 ta0 dX1_begin_7 (fun m102 H locs em102 hw => ?_)
  have hf := nm_el hf em102
  refine lv_aload_n hx hb dX1_begin_10 rfl (lv_at hl 0 rfl) ?_
  refine lv_lconst hx hb dX1_begin_11 kl_0 ?_
  refine x_putL C hw fa_X1_19 ta0 dX1_begin_12 (fun m103 H locs em103 hw => ?_)
  have hf := nm_el hf em103
  refine lv_aload_n hx hb dX1_begin_15 rfl (lv_at hl 0 rfl) ?_
  refine lv_iconst hx hb dX1_begin_16 ki_0 ?_
  refine x_putI C hw fa_X1_22 ta0 dX1_begin_17 (fun m104 H locs em104 hw => ?_)
  have hf := nm_el hf em104
  refine lv_aload_n hx hb dX1_begin_20 rfl (lv_at hl 0 rfl) ?_
  refine lv_iconst hx hb dX1_begin_21 ki_0 ?_
  refine x_putI C hw fa_X1_25 ta0 dX1_begin_22 (fun m105 H locs em105 hw => ?_)
  have hf := nm_el hf em105
  refine lv_aload_n hx hb dX1_begin_25 rfl (lv_at hl 0 rfl) ?_
  refine lv_iconst hx hb dX1_begin_26 ki_0 ?_
  refine x_putI C hw fa_X1_28 ta0 dX1_begin_27 (fun m106 H locs em106 hw => ?_)
  have hf := nm_el hf em106
  refine lv_aload_n hx hb dX1_begin_30 rfl (lv_at hl 0 rfl) ?_
  refine lv_iconst hx hb dX1_begin_31 ki_0 ?_
  refine x_putI C hw fa_X1_31 ta0 dX1_begin_32 (fun m107 H locs em107 hw => ?_)
  have hf := nm_el hf em107
  refine lv_aload_n hx hb dX1_begin_35 rfl (lv_at hl 0 rfl) ?_
  refine lv_iconst hx hb dX1_begin_36 ki_0 ?_
  refine x_putZ C hw fa_X1_34 ta0 (Or.inl rfl) dX1_begin_37 (fun m108 H locs em108 hw => ?_)
  have hf := nm_el hf em108
  refine lv_aload_n hx hb dX1_begin_40 rfl (lv_at hl 0 rfl) ?_
  refine lv_iconst hx hb dX1_begin_41 ki_0 ?_
  refine x_putI C hw fa_X1_38 ta0 dX1_begin_42 (fun m109 H locs em109 hw => ?_)
  have hf := nm_el hf em109
  exact x_ret C hr hk hw  hf (by decide) (by decide) dX1_begin_45
set_option maxHeartbeats 4000000 in
set_option maxRecDepth 100000 in
theorem k_X1_init {l : Launch} {D : va_G} {E : Nat → ClassId} {tU : Nat} {τ : Nat → Option XTy} {a0 : Nat} {m0 mE : XMem} (hm : mT m0 = τ) (ta0 : τ a0 = some (.inl 1)) (hf : f_X1_init a0 m0 = some mE) : Ct l yX1_init cX1_init 1 ((Option.none : Option FieldType)) 1 0 0 D E tU [.ref a0] m0 (none) mE (mT mE = mT m0 ∧ True) := by
  subst hm
  refine Ct.of (by decide) (Nat.le_of_ble_eq_true rfl) (fun p e s m below meth c ls C hr hk hnm hl hw => ?_)
  have hx := C.1
  have hb := C.2.1
  have hl : lv_has ls 1 [(0, .ref a0)] := hl
  unfold f_X1_init at hf
  refine lv_aload_n hx hb dX1_init_0 rfl (lv_at hl 0 rfl) ?_
  refine x_obj C hl.1 ko_X1_3 ko_i ko_c (by decide) (Nat.le_of_ble_eq_true rfl) (by decide) dX1_init_1 ?_
  exact x_ret C hr hk hw  hf (by decide) (by decide) dX1_init_4
set_option maxHeartbeats 4000000 in
set_option maxRecDepth 100000 in
theorem k_X1_isBefore {l : Launch} {D : va_G} {E : Nat → ClassId} {tU : Nat} {τ : Nat → Option XTy} {a0 : Nat} {a1 : Nat} {m0 mE : XMem} {rE : Int32} (hm : mT m0 = τ) (ta0 : τ a0 = some (.inl 1)) (ta1 : τ a1 = some (.inl 1)) (hf : f_X1_isBefore a0 a1 m0 = some (rE, mE)) : Ct l yX1_isBefore cX1_isBefore 2 ((Option.some FieldType.boolean)) 1 0 0 D E tU [.ref a0, .ref a1] m0 (some (.int rE)) mE (mT mE = mT m0 ∧ (rE = 0 ∨ rE = 1)) := by
  subst hm
  refine Ct.of (by decide) (Nat.le_of_ble_eq_true rfl) (fun p e s m below meth c ls C hr hk hnm hl hw => ?_)
  have hx := C.1
  have hb := C.2.1
  have hl : lv_has ls 2 [(0, .ref a0), (1, .ref a1)] := hl
  unfold f_X1_isBefore at hf
  refine lv_aload_n hx hb dX1_isBefore_0 rfl (lv_at hl 0 rfl) ?_
  refine x_getI C hw fa_X1_25 ta0 dX1_isBefore_1 ?_
  refine lv_aload_n hx hb dX1_isBefore_4 rfl (lv_at hl 1 rfl) ?_
  refine x_getI C hw fa_X1_25 ta1 dX1_isBefore_5 ?_
  refine lv_icmp_ge (tgt := 15) hx hb dX1_isBefore_8 (by decide) (fun c => ?_) (fun c => ?_)
  · have hf := ifp hf c
    refine lv_iconst hx hb dX1_isBefore_15 ki_0 ?_
    exact x_retZ C hr hk (Or.inl rfl) hw  hf (by decide) (by decide) dX1_isBefore_16
  · have hf := ifn hf c
    refine lv_iconst hx hb dX1_isBefore_11 ki_1 ?_
    refine lv_goto (tgt := 16) hx hb dX1_isBefore_12 (by decide) ?_
    exact x_retZ C hr hk (Or.inr rfl) hw  hf (by decide) (by decide) dX1_isBefore_16
set_option maxHeartbeats 4000000 in
set_option maxRecDepth 100000 in
theorem k_X1_share {l : Launch} {D : va_G} {E : Nat → ClassId} {tU : Nat} {τ : Nat → Option XTy} {a0 : Nat} {m0 mE : XMem} {rE : Int64} (hm : mT m0 = τ) (ta0 : τ a0 = some (.inl 1)) (hf : f_X1_share a0 m0 = some (rE, mE)) : Ct l yX1_share cX1_share 1 ((Option.some FieldType.long)) 2 0 0 D E tU [.ref a0] m0 (some (.long rE)) mE (mT mE = mT m0 ∧ True) := by
  subst hm
  refine Ct.of (by decide) (Nat.le_of_ble_eq_true rfl) (fun p e s m below meth c ls C hr hk hnm hl hw => ?_)
  have hx := C.1
  have hb := C.2.1
  have hl : lv_has ls 1 [(0, .ref a0)] := hl
  unfold f_X1_share at hf
  refine lv_aload_n hx hb dX1_share_0 rfl (lv_at hl 0 rfl) ?_
  refine x_getI C hw fa_X1_22 ta0 dX1_share_1 ?_
  refine lv_iconst hx hb dX1_share_4 ki_1 ?_
  refine lv_icmp_ne (tgt := 19) hx hb dX1_share_5 (by decide) (fun c => ?_) (fun c => ?_)
  · have hf := ifn hf c
    refine lv_lconst hx hb dX1_share_19 kl_0 ?_
    exact x_retL C hr hk hw  hf (by decide) (by decide) dX1_share_20
  · have hf := ifp hf c
    refine lv_lconst hx hb dX1_share_8 kl_0 ?_
    refine lv_aload_n hx hb dX1_share_9 rfl (lv_at hl 0 rfl) ?_
    obtain ⟨l102, m101, cm101, hf⟩ := b2_el (o := f_X1_balance a0 m0) hf
    refine x_callVl (As := []) (rest := [.long 0]) C hl.1 hw cb_X1_56 cv_X1_balance (k_X1_balance hw.2.2.2.2 ta0 cm101) ta0 rfl rfl (by decide) ⟨Nat.le_refl _, Nat.le_refl _⟩ rfl (Nat.le_of_ble_eq_true rfl) dX1_share_10 (fun H locs hw tl102 => ?_)
    refine x_mmaxL C hl.1 km_X1_60 (by decide) (Nat.le_of_ble_eq_true rfl) (by decide) (Nat.zero_le _) (Nat.zero_le _) dX1_share_13 ?_
    refine lv_topl (fun l103 el103 => ?_)
    have hf := nm_el hf el103
    refine lv_goto (tgt := 20) hx hb dX1_share_16 (by decide) ?_
    exact x_retL C hr hk hw  hf (by decide) (by decide) dX1_share_20
set_option maxHeartbeats 4000000 in
set_option maxRecDepth 100000 in
theorem w_X1_speak_j33 {p : Program} {l : Launch} {e : Env} {s : State} {m : MethodId} {args : Array Value} {below : List Frame} {meth : Method} {c : Code} {D : va_G} {E : Nat → ClassId} {tU : Nat} {m0 mE : XMem} (C : Cx p s m args c cX1_speak 2 RX1 D E (Am m0) tU) (hr : meth.sig.returnType = ((Option.none : Option FieldType))) (hk : meth.locks = false) (hnm : meth.name = yX1_speak.name) {a0 : Nat} {x1 : Int32} {mu : XMem} {H : Heap} {locs : List Loc} {ls : Array Slot} (ta0 : mT m0 a0 = some (.inl 1)) (hl : lv_has ls 2 [(0, .ref a0), (1, .int x1)]) (hw : Wd D E (Am m0) s (mT m0) mu H locs) (hf : f_X1_speak_j33 a0 x1 mu = some mE) : W p l e (rmN 2 0 0) s m args below meth c H locs 0 0 (MQ below (XQ D E (Am m0) (none) mE (mT mE = mT m0 ∧ True)) args s 0 0 (Am m0)) (F0 m 33 ls []) := by
  have hx := C.1
  have hb := C.2.1
  unfold f_X1_speak_j33 at hf
  refine lv_aload_n hx hb dX1_speak_33 rfl (lv_at hl 0 rfl) ?_
  refine x_getI C hw fa_X1_22 ta0 dX1_speak_34 ?_
  refine lv_iconst hx hb dX1_speak_37 ki_1 ?_
  refine lv_icmp_ne (tgt := 60) hx hb dX1_speak_38 (by decide) (fun c => ?_) (fun c => ?_)
  · have hf := ifn hf c
    exact x_ret C hr hk hw  hf (by decide) (by decide) dX1_speak_60
  · have hf := ifp hf c
    refine lv_aload_n hx hb dX1_speak_41 rfl (lv_at hl 0 rfl) ?_
    obtain ⟨l106, m105, cm105, hf⟩ := b2_el (o := f_X1_balance a0 mu) hf
    refine x_callVl (As := []) (rest := []) C hl.1 hw cb_X1_56 cv_X1_balance (k_X1_balance hw.2.2.2.2 ta0 cm105) ta0 rfl rfl (by decide) ⟨Nat.le_refl _, Nat.le_refl _⟩ rfl (Nat.le_of_ble_eq_true rfl) dX1_speak_42 (fun H locs hw tl106 => ?_)
    refine lv_lconst hx hb dX1_speak_45 kl_0 ?_
    refine W.lcmp hx hb dX1_speak_46 ?_
    refine lv_if_gt (tgt := 60) hx hb dX1_speak_47 (by decide) (fun c => ?_) (fun c => ?_)
    · have hf := ifp hf c
      exact x_ret C hr hk hw  hf (by decide) (by decide) dX1_speak_60
    · have hf := ifn hf c
      refine lv_aload_n hx hb dX1_speak_50 rfl (lv_at hl 0 rfl) ?_
      refine lv_iconst hx hb dX1_speak_51 ki_2 ?_
      refine x_putI C hw fa_X1_22 ta0 dX1_speak_52 (fun m107 H locs em107 hw => ?_)
      have hf := nm_el hf em107
      refine lv_aload_n hx hb dX1_speak_55 rfl (lv_at hl 0 rfl) ?_
      refine lv_iload_n hx hb dX1_speak_56 rfl (lv_at hl 1 rfl) ?_
      refine x_putI C hw fa_X1_28 ta0 dX1_speak_57 (fun m108 H locs em108 hw => ?_)
      have hf := nm_el hf em108
      exact x_ret C hr hk hw  hf (by decide) (by decide) dX1_speak_60
set_option maxHeartbeats 4000000 in
set_option maxRecDepth 100000 in
theorem k_X1_speak {l : Launch} {D : va_G} {E : Nat → ClassId} {tU : Nat} {τ : Nat → Option XTy} {a0 : Nat} {x1 : Int32} {m0 mE : XMem} (hm : mT m0 = τ) (ta0 : τ a0 = some (.inl 1)) (hf : f_X1_speak a0 x1 m0 = some mE) : Ct l yX1_speak cX1_speak 2 ((Option.none : Option FieldType)) 2 0 0 D E tU [.ref a0, .int x1] m0 (none) mE (mT mE = mT m0 ∧ True) := by
  subst hm
  refine Ct.of (by decide) (Nat.le_of_ble_eq_true rfl) (fun p e s m below meth c ls C hr hk hnm hl hw => ?_)
  have hx := C.1
  have hb := C.2.1
  have hl : lv_has ls 2 [(0, .ref a0), (1, .int x1)] := hl
  unfold f_X1_speak at hf
  refine lv_aload_n hx hb dX1_speak_0 rfl (lv_at hl 0 rfl) ?_
  refine x_getI C hw fa_X1_22 ta0 dX1_speak_1 ?_
  refine lv_if_ne (tgt := 33) hx hb dX1_speak_4 (by decide) (fun c => ?_) (fun c => ?_)
  · have hf := ifn hf c
    exact w_X1_speak_j33 C hr hk hnm ta0 (lv_sub hl [0, 1] rfl) hw hf
  · have hf := ifp hf c
    refine lv_aload_n hx hb dX1_speak_7 rfl (lv_at hl 0 rfl) ?_
    obtain ⟨l102, m101, cm101, hf⟩ := b2_el (o := f_X1_balance a0 m0) hf
    refine x_callVl (As := []) (rest := []) C hl.1 hw cb_X1_56 cv_X1_balance (k_X1_balance hw.2.2.2.2 ta0 cm101) ta0 rfl rfl (by decide) ⟨Nat.le_refl _, Nat.le_refl _⟩ rfl (Nat.le_of_ble_eq_true rfl) dX1_speak_8 (fun H locs hw tl102 => ?_)
    refine lv_aload_n hx hb dX1_speak_11 rfl (lv_at hl 0 rfl) ?_
    refine x_getI C hw fa_X1_53 ta0 dX1_speak_12 ?_
    refine lv_i2l (v := (Int32.toInt64 (mI m101 a0 4))) hx hb dX1_speak_15 rfl ?_
    refine W.lcmp hx hb dX1_speak_16 ?_
    refine lv_if_lt (tgt := 33) hx hb dX1_speak_17 (by decide) (fun c => ?_) (fun c => ?_)
    · have hf := ifp hf c
      exact w_X1_speak_j33 C hr hk hnm ta0 (lv_sub hl [0, 1] rfl) hw hf
    · have hf := ifn hf c
      refine lv_aload_n hx hb dX1_speak_20 rfl (lv_at hl 0 rfl) ?_
      refine lv_iconst hx hb dX1_speak_21 ki_1 ?_
      refine x_putI C hw fa_X1_22 ta0 dX1_speak_22 (fun m103 H locs em103 hw => ?_)
      have hf := nm_el hf em103
      refine lv_aload_n hx hb dX1_speak_25 rfl (lv_at hl 0 rfl) ?_
      refine lv_iload_n hx hb dX1_speak_26 rfl (lv_at hl 1 rfl) ?_
      refine x_putI C hw fa_X1_25 ta0 dX1_speak_27 (fun m104 H locs em104 hw => ?_)
      have hf := nm_el hf em104
      refine lv_goto (tgt := 60) hx hb dX1_speak_30 (by decide) ?_
      exact x_ret C hr hk hw  hf (by decide) (by decide) dX1_speak_60
set_option maxHeartbeats 4000000 in
set_option maxRecDepth 100000 in
theorem k_X1_take {l : Launch} {D : va_G} {E : Nat → ClassId} {tU : Nat} {τ : Nat → Option XTy} {a0 : Nat} {a1 : Nat} {m0 mE : XMem} (hm : mT m0 = τ) (ta0 : τ a0 = some (.inl 1)) (ta1 : τ a1 = some (.inl 1)) (hf : f_X1_take a0 a1 m0 = some mE) : Ct l yX1_take cX1_take 2 ((Option.none : Option FieldType)) 1 0 0 D E tU [.ref a0, .ref a1] m0 (none) mE (mT mE = mT m0 ∧ True) := by
  subst hm
  refine Ct.of (by decide) (Nat.le_of_ble_eq_true rfl) (fun p e s m below meth c ls C hr hk hnm hl hw => ?_)
  have hx := C.1
  have hb := C.2.1
  have hl : lv_has ls 2 [(0, .ref a0), (1, .ref a1)] := hl
  unfold f_X1_take at hf
  refine lv_aload_n hx hb dX1_take_0 rfl (lv_at hl 0 rfl) ?_
  refine lv_aload_n hx hb dX1_take_1 rfl (lv_at hl 1 rfl) ?_
  refine x_getI C hw fa_X1_41 ta1 dX1_take_2 ?_
  refine x_putI C hw fa_X1_41 ta0 dX1_take_5 (fun m101 H locs em101 hw => ?_)
  have hf := nm_el hf em101
  refine lv_aload_n hx hb dX1_take_8 rfl (lv_at hl 0 rfl) ?_
  refine lv_aload_n hx hb dX1_take_9 rfl (lv_at hl 1 rfl) ?_
  refine x_getI C hw fa_X1_44 ta1 dX1_take_10 ?_
  refine x_putI C hw fa_X1_44 ta0 dX1_take_13 (fun m102 H locs em102 hw => ?_)
  have hf := nm_el hf em102
  refine lv_aload_n hx hb dX1_take_16 rfl (lv_at hl 0 rfl) ?_
  refine lv_aload_n hx hb dX1_take_17 rfl (lv_at hl 1 rfl) ?_
  refine x_getI C hw fa_X1_47 ta1 dX1_take_18 ?_
  refine x_putI C hw fa_X1_47 ta0 dX1_take_21 (fun m103 H locs em103 hw => ?_)
  have hf := nm_el hf em103
  refine lv_aload_n hx hb dX1_take_24 rfl (lv_at hl 0 rfl) ?_
  refine lv_aload_n hx hb dX1_take_25 rfl (lv_at hl 1 rfl) ?_
  refine x_getI C hw fa_X1_50 ta1 dX1_take_26 ?_
  refine x_putI C hw fa_X1_50 ta0 dX1_take_29 (fun m104 H locs em104 hw => ?_)
  have hf := nm_el hf em104
  refine lv_aload_n hx hb dX1_take_32 rfl (lv_at hl 0 rfl) ?_
  refine lv_aload_n hx hb dX1_take_33 rfl (lv_at hl 1 rfl) ?_
  refine x_getI C hw fa_X1_53 ta1 dX1_take_34 ?_
  refine x_putI C hw fa_X1_53 ta0 dX1_take_37 (fun m105 H locs em105 hw => ?_)
  have hf := nm_el hf em105
  refine lv_aload_n hx hb dX1_take_40 rfl (lv_at hl 0 rfl) ?_
  refine lv_aload_n hx hb dX1_take_41 rfl (lv_at hl 1 rfl) ?_
  refine x_getI C hw fa_X1_9 ta1 dX1_take_42 ?_
  refine x_putI C hw fa_X1_9 ta0 dX1_take_45 (fun m106 H locs em106 hw => ?_)
  have hf := nm_el hf em106
  refine lv_aload_n hx hb dX1_take_48 rfl (lv_at hl 0 rfl) ?_
  refine lv_aload_n hx hb dX1_take_49 rfl (lv_at hl 1 rfl) ?_
  refine x_getL C hw fa_X1_15 ta1 dX1_take_50 ?_
  refine x_putL C hw fa_X1_15 ta0 dX1_take_53 (fun m107 H locs em107 hw => ?_)
  have hf := nm_el hf em107
  refine lv_aload_n hx hb dX1_take_56 rfl (lv_at hl 0 rfl) ?_
  refine lv_aload_n hx hb dX1_take_57 rfl (lv_at hl 1 rfl) ?_
  refine x_getL C hw fa_X1_19 ta1 dX1_take_58 ?_
  refine x_putL C hw fa_X1_19 ta0 dX1_take_61 (fun m108 H locs em108 hw => ?_)
  have hf := nm_el hf em108
  refine lv_aload_n hx hb dX1_take_64 rfl (lv_at hl 0 rfl) ?_
  refine lv_aload_n hx hb dX1_take_65 rfl (lv_at hl 1 rfl) ?_
  refine x_getI C hw fa_X1_22 ta1 dX1_take_66 ?_
  refine x_putI C hw fa_X1_22 ta0 dX1_take_69 (fun m109 H locs em109 hw => ?_)
  have hf := nm_el hf em109
  refine lv_aload_n hx hb dX1_take_72 rfl (lv_at hl 0 rfl) ?_
  refine lv_aload_n hx hb dX1_take_73 rfl (lv_at hl 1 rfl) ?_
  refine x_getI C hw fa_X1_25 ta1 dX1_take_74 ?_
  refine x_putI C hw fa_X1_25 ta0 dX1_take_77 (fun m110 H locs em110 hw => ?_)
  have hf := nm_el hf em110
  refine lv_aload_n hx hb dX1_take_80 rfl (lv_at hl 0 rfl) ?_
  refine lv_aload_n hx hb dX1_take_81 rfl (lv_at hl 1 rfl) ?_
  refine x_getI C hw fa_X1_28 ta1 dX1_take_82 ?_
  refine x_putI C hw fa_X1_28 ta0 dX1_take_85 (fun m111 H locs em111 hw => ?_)
  have hf := nm_el hf em111
  refine lv_aload_n hx hb dX1_take_88 rfl (lv_at hl 0 rfl) ?_
  refine lv_aload_n hx hb dX1_take_89 rfl (lv_at hl 1 rfl) ?_
  refine x_getI C hw fa_X1_31 ta1 dX1_take_90 ?_
  refine x_putI C hw fa_X1_31 ta0 dX1_take_93 (fun m112 H locs em112 hw => ?_)
  have hf := nm_el hf em112
  refine lv_aload_n hx hb dX1_take_96 rfl (lv_at hl 0 rfl) ?_
  refine lv_aload_n hx hb dX1_take_97 rfl (lv_at hl 1 rfl) ?_
  refine x_getZ C hw fa_X1_34 ta1 dX1_take_98 ?_
  obtain ⟨g114, hf⟩ := gd_el hf
  refine x_putZ C hw fa_X1_34 ta0 (zb_or g114) dX1_take_101 (fun m113 H locs em113 hw => ?_)
  have hf := nm_el hf em113
  refine lv_aload_n hx hb dX1_take_104 rfl (lv_at hl 0 rfl) ?_
  refine lv_aload_n hx hb dX1_take_105 rfl (lv_at hl 1 rfl) ?_
  refine x_getI C hw fa_X1_38 ta1 dX1_take_106 ?_
  refine x_putI C hw fa_X1_38 ta0 dX1_take_109 (fun m115 H locs em115 hw => ?_)
  have hf := nm_el hf em115
  exact x_ret C hr hk hw  hf (by decide) (by decide) dX1_take_112
set_option maxHeartbeats 4000000 in
set_option maxRecDepth 100000 in
theorem k_X2_init {l : Launch} {D : va_G} {E : Nat → ClassId} {tU : Nat} {τ : Nat → Option XTy} {a0 : Nat} {a1 : Nat} {x2 : Int32} {m0 mE : XMem} (hm : mT m0 = τ) (ta0 : τ a0 = some (.inl 2)) (ta1 : τ a1 = some (.inl 6)) (hf : f_X2_init a0 a1 x2 m0 = some mE) : Ct l yX2_init cX2_init 3 ((Option.none : Option FieldType)) 1 0 0 D E tU [.ref a0, .ref a1, .int x2] m0 (none) mE (mT mE = mT m0 ∧ True) := by
  subst hm
  refine Ct.of (by decide) (Nat.le_of_ble_eq_true rfl) (fun p e s m below meth c ls C hr hk hnm hl hw => ?_)
  have hx := C.1
  have hb := C.2.1
  have hl : lv_has ls 3 [(0, .ref a0), (1, .ref a1), (2, .int x2)] := hl
  unfold f_X2_init at hf
  refine lv_aload_n hx hb dX2_init_0 rfl (lv_at hl 0 rfl) ?_
  refine x_obj C hl.1 ko_X2_1 ko_i ko_c (by decide) (Nat.le_of_ble_eq_true rfl) (by decide) dX2_init_1 ?_
  refine lv_aload_n hx hb dX2_init_4 rfl (lv_at hl 0 rfl) ?_
  refine lv_aload_n hx hb dX2_init_5 rfl (lv_at hl 1 rfl) ?_
  refine x_putFR C hnm hw fa_X2_7 (Or.inl ⟨_, rfl⟩) rfl ta0 ta1 dX2_init_6 (fun m101 H locs em101 hw => ?_)
  have hf := nm_el hf em101
  refine lv_aload_n hx hb dX2_init_9 rfl (lv_at hl 0 rfl) ?_
  refine lv_iload_n hx hb dX2_init_10 rfl (lv_at hl 2 rfl) ?_
  refine x_putFI C hnm hw fa_X2_13 rfl ta0 dX2_init_11 (fun m102 H locs em102 hw => ?_)
  have hf := nm_el hf em102
  exact x_ret C hr hk hw  hf (by decide) (by decide) dX2_init_14
set_option maxHeartbeats 4000000 in
set_option maxRecDepth 100000 in
theorem k_X3_codeOf {l : Launch} {D : va_G} {E : Nat → ClassId} {tU : Nat} {τ : Nat → Option XTy} {x0 : Int32} {m0 mE : XMem} {rE : Int32} (hm : mT m0 = τ)  (hf : f_X3_codeOf x0 m0 = some (rE, mE)) : Ct l yX3_codeOf cX3_codeOf 1 ((Option.some FieldType.int)) 1 0 0 D E tU [.int x0] m0 (some (.int rE)) mE (mT mE = mT m0 ∧ True) := by
  subst hm
  refine Ct.of (by decide) (Nat.le_of_ble_eq_true rfl) (fun p e s m below meth c ls C hr hk hnm hl hw => ?_)
  have hx := C.1
  have hb := C.2.1
  have hl : lv_has ls 1 [(0, .int x0)] := hl
  unfold f_X3_codeOf at hf
  refine lv_iload_n hx hb dX3_codeOf_0 rfl (lv_at hl 0 rfl) ?_
  by_cases c101 : x0 = 99
  · have hf := ifp hf c101
    refine lv_lookup (off := 115) (tgt := 116) hx hb dX3_codeOf_1 (by decide) (by rw [c101]; try rfl) (by decide) ?_
    refine lv_bipush hx hb dX3_codeOf_116 kb_m4 ?_
    exact x_retI C hr hk hw  hf (by decide) (by decide) dX3_codeOf_118
  · have hf := ifn hf c101
    by_cases c102 : x0 = 104
    · have hf := ifp hf c102
      refine lv_lookup (off := 112) (tgt := 113) hx hb dX3_codeOf_1 (by decide) (by rw [c102]; try rfl) (by decide) ?_
      refine lv_bipush hx hb dX3_codeOf_113 kb_m3 ?_
      exact x_retI C hr hk hw  hf (by decide) (by decide) dX3_codeOf_115
    · have hf := ifn hf c102
      by_cases c103 : x0 = 112
      · have hf := ifp hf c103
        refine lv_lookup (off := 107) (tgt := 108) hx hb dX3_codeOf_1 (by decide) (by rw [c103]; try rfl) (by decide) ?_
        refine lv_iconst hx hb dX3_codeOf_108 ki_m1 ?_
        exact x_retI C hr hk hw  hf (by decide) (by decide) dX3_codeOf_109
      · have hf := ifn hf c103
        by_cases c104 : x0 = 116
        · have hf := ifp hf c104
          refine lv_lookup (off := 109) (tgt := 110) hx hb dX3_codeOf_1 (by decide) (by rw [c104]; try rfl) (by decide) ?_
          refine lv_bipush hx hb dX3_codeOf_110 kb_m2 ?_
          exact x_retI C hr hk hw  hf (by decide) (by decide) dX3_codeOf_112
        · have hf := ifn hf c104
          by_cases c105 : x0 = 119
          · have hf := ifp hf c105
            refine lv_lookup (off := 118) (tgt := 119) hx hb dX3_codeOf_1 (by decide) (by rw [c105]; try rfl) (by decide) ?_
            refine lv_bipush hx hb dX3_codeOf_119 kb_m5 ?_
            exact x_retI C hr hk hw  hf (by decide) (by decide) dX3_codeOf_121
          · have hf := ifn hf c105
            by_cases c106 : x0 = 26982
            · have hf := ifp hf c106
              refine lv_lookup (off := 139) (tgt := 140) hx hb dX3_codeOf_1 (by decide) (by rw [c106]; try rfl) (by decide) ?_
              refine lv_bipush hx hb dX3_codeOf_140 kb_m12 ?_
              exact x_retI C hr hk hw  hf (by decide) (by decide) dX3_codeOf_142
            · have hf := ifn hf c106
              by_cases c107 : x0 = 7168376
              · have hf := ifp hf c107
                refine lv_lookup (off := 136) (tgt := 137) hx hb dX3_codeOf_1 (by decide) (by rw [c107]; try rfl) (by decide) ?_
                refine lv_bipush hx hb dX3_codeOf_137 kb_m11 ?_
                exact x_retI C hr hk hw  hf (by decide) (by decide) dX3_codeOf_139
              · have hf := ifn hf c107
                by_cases c108 : x0 = 7170414
                · have hf := ifp hf c108
                  refine lv_lookup (off := 133) (tgt := 134) hx hb dX3_codeOf_1 (by decide) (by rw [c108]; try rfl) (by decide) ?_
                  refine lv_bipush hx hb dX3_codeOf_134 kb_m10 ?_
                  exact x_retI C hr hk hw  hf (by decide) (by decide) dX3_codeOf_136
                · have hf := ifn hf c108
                  by_cases c109 : x0 = 7173484
                  · have hf := ifp hf c109
                    refine lv_lookup (off := 127) (tgt := 128) hx hb dX3_codeOf_1 (by decide) (by rw [c109]; try rfl) (by decide) ?_
                    refine lv_bipush hx hb dX3_codeOf_128 kb_m8 ?_
                    exact x_retI C hr hk hw  hf (by decide) (by decide) dX3_codeOf_130
                  · have hf := ifn hf c109
                    by_cases c110 : x0 = 7566701
                    · have hf := ifp hf c110
                      refine lv_lookup (off := 121) (tgt := 122) hx hb dX3_codeOf_1 (by decide) (by rw [c110]; try rfl) (by decide) ?_
                      refine lv_bipush hx hb dX3_codeOf_122 kb_m6 ?_
                      exact x_retI C hr hk hw  hf (by decide) (by decide) dX3_codeOf_124
                    · have hf := ifn hf c110
                      by_cases c111 : x0 = 1818588019
                      · have hf := ifp hf c111
                        refine lv_lookup (off := 124) (tgt := 125) hx hb dX3_codeOf_1 (by decide) (by rw [c111]; try rfl) (by decide) ?_
                        refine lv_bipush hx hb dX3_codeOf_125 kb_m7 ?_
                        exact x_retI C hr hk hw  hf (by decide) (by decide) dX3_codeOf_127
                      · have hf := ifn hf c111
                        by_cases c112 : x0 = 1885434484
                        · have hf := ifp hf c112
                          refine lv_lookup (off := 130) (tgt := 131) hx hb dX3_codeOf_1 (by decide) (by rw [c112]; try rfl) (by decide) ?_
                          refine lv_bipush hx hb dX3_codeOf_131 kb_m9 ?_
                          exact x_retI C hr hk hw  hf (by decide) (by decide) dX3_codeOf_133
                        · have hf := ifn hf c112
                          refine lv_lookup (off := 142) (tgt := 143) hx hb dX3_codeOf_1 (by decide) (by
                              show Op.lookupswitch.offset [(99, 115), (104, 112), (112, 107), (116, 109), (119, 118), (26982, 139), (7168376, 136), (7170414, 133), (7173484, 127), (7566701, 121), (1818588019, 124), (1885434484, 130)] 142 _ = _
                              rw [lv_osw c101 (by decide), lv_osw c102 (by decide), lv_osw c103 (by decide), lv_osw c104 (by decide), lv_osw c105 (by decide), lv_osw c106 (by decide), lv_osw c107 (by decide), lv_osw c108 (by decide), lv_osw c109 (by decide), lv_osw c110 (by decide), lv_osw c111 (by decide), lv_osw c112 (by decide)]
                              try rfl) (by decide) ?_
                          refine lv_bipush hx hb dX3_codeOf_143 kb_m13 ?_
                          exact x_retI C hr hk hw  hf (by decide) (by decide) dX3_codeOf_145
set_option maxHeartbeats 4000000 in
set_option maxRecDepth 100000 in
theorem k_X3_emit {l : Launch} {D : va_G} {E : Nat → ClassId} {tU : Nat} {τ : Nat → Option XTy} {a0 : Nat} {x1 : Int32} {m0 mE : XMem} (hm : mT m0 = τ) (ta0 : τ a0 = some (.inl 3)) (hf : f_X3_emit a0 x1 m0 = some mE) : Ct l yX3_emit cX3_emit 2 ((Option.none : Option FieldType)) 1 0 0 D E tU [.ref a0, .int x1] m0 (none) mE (mT mE = mT m0 ∧ True) := by
  subst hm
  refine Ct.of (by decide) (Nat.le_of_ble_eq_true rfl) (fun p e s m below meth c ls C hr hk hnm hl hw => ?_)
  have hx := C.1
  have hb := C.2.1
  have hl : lv_has ls 2 [(0, .ref a0), (1, .int x1)] := hl
  unfold f_X3_emit at hf
  refine lv_aload_n hx hb dX3_emit_0 rfl (lv_at hl 0 rfl) ?_
  refine x_getI C hw fa_X3_15 ta0 dX3_emit_1 ?_
  refine lv_if_lt (tgt := 39) hx hb dX3_emit_4 (by decide) (fun c => ?_) (fun c => ?_)
  · have hf := ifp hf c
    exact x_ret C hr hk hw  hf (by decide) (by decide) dX3_emit_39
  · have hf := ifn hf c
    refine lv_aload_n hx hb dX3_emit_7 rfl (lv_at hl 0 rfl) ?_
    refine x_getI C hw fa_X3_15 ta0 dX3_emit_8 ?_
    refine lv_aload_n hx hb dX3_emit_11 rfl (lv_at hl 0 rfl) ?_
    obtain ⟨b101, eb101, hf⟩ := fo_el hf
    refine x_getR C hw fa_X3_9 (Or.inr ⟨_, rfl⟩) ta0 eb101 dX3_emit_12 (fun tb101 => ?_)
    have tb101 : ∃ n, (mT m0) b101 = some (.inr (0, n)) := tb101
    refine x_alen (ek := 0) C hw rfl tb101 dX3_emit_15 ?_
    refine lv_icmp_ge (tgt := 39) hx hb dX3_emit_16 (by decide) (fun c => ?_) (fun c => ?_)
    · have hf := ifp hf c
      exact x_ret C hr hk hw  hf (by decide) (by decide) dX3_emit_39
    · have hf := ifn hf c
      refine lv_aload_n hx hb dX3_emit_19 rfl (lv_at hl 0 rfl) ?_
      obtain ⟨b102, eb102, hf⟩ := fo_el hf
      refine x_getR C hw fa_X3_9 (Or.inr ⟨_, rfl⟩) ta0 eb102 dX3_emit_20 (fun tb102 => ?_)
      have tb102 : ∃ n, (mT m0) b102 = some (.inr (0, n)) := tb102
      refine lv_aload_n hx hb dX3_emit_23 rfl (lv_at hl 0 rfl) ?_
      refine x_getI C hw fa_X3_15 ta0 dX3_emit_24 ?_
      refine lv_iload_n hx hb dX3_emit_27 rfl (lv_at hl 1 rfl) ?_
      obtain ⟨g103, hf⟩ := gd_el hf
      refine x_iast C hw tb102 g103 dX3_emit_28 (fun m104 H locs em104 hw => ?_)
      have hf := nm_el hf em104
      refine lv_aload_n hx hb dX3_emit_29 rfl (lv_at hl 0 rfl) ?_
      refine lv_dup hx hb dX3_emit_30 rfl ?_
      refine x_getI C hw fa_X3_15 ta0 dX3_emit_31 ?_
      refine lv_iconst hx hb dX3_emit_34 ki_1 ?_
      refine lv_iadd hx hb dX3_emit_35 ?_
      refine x_putI C hw fa_X3_15 ta0 dX3_emit_36 (fun m105 H locs em105 hw => ?_)
      have hf := nm_el hf em105
      exact x_ret C hr hk hw  hf (by decide) (by decide) dX3_emit_39
set_option maxHeartbeats 4000000 in
set_option maxRecDepth 100000 in
theorem k_X5_byteAt {l : Launch} {D : va_G} {E : Nat → ClassId} {tU : Nat} {τ : Nat → Option XTy} {a0 : Nat} {x1 : Int32} {m0 mE : XMem} {rE : Int32} (hm : mT m0 = τ) (ta0 : τ a0 = some (.inl 5)) (hf : f_X5_byteAt a0 x1 m0 = some (rE, mE)) : Ct l yX5_byteAt cX5_byteAt 2 ((Option.some FieldType.int)) 1 0 0 D E tU [.ref a0, .int x1] m0 (some (.int rE)) mE (mT mE = mT m0 ∧ True) := by
  subst hm
  refine Ct.of (by decide) (Nat.le_of_ble_eq_true rfl) (fun p e s m below meth c ls C hr hk hnm hl hw => ?_)
  have hx := C.1
  have hb := C.2.1
  have hl : lv_has ls 2 [(0, .ref a0), (1, .int x1)] := hl
  unfold f_X5_byteAt at hf
  refine lv_iload_n hx hb dX5_byteAt_0 rfl (lv_at hl 1 rfl) ?_
  refine lv_if_lt (tgt := 21) hx hb dX5_byteAt_1 (by decide) (fun c => ?_) (fun c => ?_)
  · have hf := ifp hf c
    refine lv_iconst hx hb dX5_byteAt_21 ki_m1 ?_
    refine lv_goto (tgt := 35) hx hb dX5_byteAt_22 (by decide) ?_
    exact x_retI C hr hk hw  hf (by decide) (by decide) dX5_byteAt_35
  · have hf := ifn hf c
    refine lv_iload_n hx hb dX5_byteAt_4 rfl (lv_at hl 1 rfl) ?_
    refine lv_aload_n hx hb dX5_byteAt_5 rfl (lv_at hl 0 rfl) ?_
    refine x_getI C hw fa_X5_15 ta0 dX5_byteAt_6 ?_
    refine lv_icmp_ge (tgt := 21) hx hb dX5_byteAt_9 (by decide) (fun c => ?_) (fun c => ?_)
    · have hf := ifp hf c
      refine lv_iconst hx hb dX5_byteAt_21 ki_m1 ?_
      refine lv_goto (tgt := 35) hx hb dX5_byteAt_22 (by decide) ?_
      exact x_retI C hr hk hw  hf (by decide) (by decide) dX5_byteAt_35
    · have hf := ifn hf c
      refine lv_iload_n hx hb dX5_byteAt_12 rfl (lv_at hl 1 rfl) ?_
      refine lv_aload_n hx hb dX5_byteAt_13 rfl (lv_at hl 0 rfl) ?_
      obtain ⟨b101, eb101, hf⟩ := fo_el hf
      refine x_getR C hw fa_X5_9 (Or.inr ⟨_, rfl⟩) ta0 eb101 dX5_byteAt_14 (fun tb101 => ?_)
      have tb101 : ∃ n, (mT m0) b101 = some (.inr (1, n)) := tb101
      refine x_alen (ek := 1) C hw rfl tb101 dX5_byteAt_17 ?_
      refine lv_icmp_lt (tgt := 25) hx hb dX5_byteAt_18 (by decide) (fun c => ?_) (fun c => ?_)
      · have hf := ifp hf c
        refine lv_aload_n hx hb dX5_byteAt_25 rfl (lv_at hl 0 rfl) ?_
        obtain ⟨b102, eb102, hf⟩ := fo_el hf
        refine x_getR C hw fa_X5_9 (Or.inr ⟨_, rfl⟩) ta0 eb102 dX5_byteAt_26 (fun tb102 => ?_)
        have tb102 : ∃ n, (mT m0) b102 = some (.inr (1, n)) := tb102
        refine lv_iload_n hx hb dX5_byteAt_29 rfl (lv_at hl 1 rfl) ?_
        obtain ⟨g103, hf⟩ := gd_el hf
        refine x_bald C hw tb102 g103 dX5_byteAt_30 ?_
        refine lv_sipush hx hb dX5_byteAt_31 ks_255 ?_
        refine lv_iand hx hb dX5_byteAt_34 ?_
        exact x_retI C hr hk hw  hf (by decide) (by decide) dX5_byteAt_35
      · have hf := ifn hf c
        refine lv_iconst hx hb dX5_byteAt_21 ki_m1 ?_
        refine lv_goto (tgt := 35) hx hb dX5_byteAt_22 (by decide) ?_
        exact x_retI C hr hk hw  hf (by decide) (by decide) dX5_byteAt_35
set_option maxHeartbeats 4000000 in
set_option maxRecDepth 100000 in
theorem w_X3_skipBlanks_h2 {p : Program} {l : Launch} {e : Env} {s : State} {m : MethodId} {args : Array Value} {below : List Frame} {meth : Method} {c : Code} {D : va_G} {E : Nat → ClassId} {tU : Nat} {m0 mE : XMem} (C : Cx p s m args c cX3_skipBlanks 3 RX3 D E (Am m0) tU) (hr : meth.sig.returnType = ((Option.none : Option FieldType))) (hk : meth.locks = false) (hnm : meth.name = yX3_skipBlanks.name) {a0 : Nat} {a1 : Nat} (ta0 : mT m0 a0 = some (.inl 3)) (ta1 : mT m0 a1 = some (.inl 5)) {k37 :  XMem → Option (XMem)} (hk37 : ∀  (mu : XMem) (H : Heap) (locs : List Loc) (ls : Array Slot), lv_has ls 3 [] → Wd D E (Am m0) s (mT m0) mu H locs →   k37  mu = some mE → W p l e (rmN 2 0 0) s m args below meth c H locs 0 0 (MQ below (XQ D E (Am m0) (none) mE (mT mE = mT m0 ∧ True)) args s 0 0 (Am m0)) (F0 m 37 ls [])) : ∀ (n : Nat) (x2 : Int32) (mu : XMem) (H : Heap) (locs : List Loc) (ls : Array Slot), lv_has ls 3 [(0, .ref a0), (1, .ref a1), (2, .int x2)] → Wd D E (Am m0) s (mT m0) mu H locs → f_X3_skipBlanks_h2 a0 a1 k37 n x2 mu = some mE → W p l e (rmN 2 0 0) s m args below meth c H locs 0 0 (MQ below (XQ D E (Am m0) (none) mE (mT mE = mT m0 ∧ True)) args s 0 0 (Am m0)) (F0 m 2 ls []) := by
  have hx := C.1
  have hb := C.2.1
  intro n
  induction n with
  | zero =>
    intros
    rename_i hf
    cases hf
  | succ n ih =>
    intro x2 mu H locs ls hl hw hf
    rw [f_X3_skipBlanks_h2] at hf
    refine lv_iload_n hx hb dX3_skipBlanks_2 rfl (lv_at hl 2 rfl) ?_
    refine lv_bipush hx hb dX3_skipBlanks_3 kb_100 ?_
    refine lv_icmp_ge (tgt := 37) hx hb dX3_skipBlanks_5 (by decide) (fun c => ?_) (fun c => ?_)
    · have hf := ifp hf c
      exact hk37 _ _ _ _ (lv_sub hl [] rfl) hw hf
    · have hf := ifn hf c
      refine lv_aload_n hx hb dX3_skipBlanks_8 rfl (lv_at hl 1 rfl) ?_
      refine lv_aload_n hx hb dX3_skipBlanks_9 rfl (lv_at hl 0 rfl) ?_
      refine x_getI C hw fa_X3_34 ta0 dX3_skipBlanks_10 ?_
      obtain ⟨r103, m102, cm102, hf⟩ := b2_el (o := f_X5_byteAt a1 (mI mu a0 7) mu) hf
      refine x_callVi (As := [.int (mI mu a0 7)]) (rest := []) C hl.1 hw cb_X3_61 cv_X5_byteAt (k_X5_byteAt hw.2.2.2.2 ta1 cm102) ta1 rfl rfl (by decide) ⟨Nat.le_refl _, Nat.le_refl _⟩ rfl (Nat.le_of_ble_eq_true rfl) dX3_skipBlanks_13 (fun H locs hw tr103 => ?_)
      refine lv_bipush hx hb dX3_skipBlanks_16 kb_32 ?_
      refine lv_icmp_ne (tgt := 37) hx hb dX3_skipBlanks_18 (by decide) (fun c => ?_) (fun c => ?_)
      · have hf := ifn hf c
        exact hk37 _ _ _ _ (lv_sub hl [] rfl) hw hf
      · have hf := ifp hf c
        refine lv_aload_n hx hb dX3_skipBlanks_21 rfl (lv_at hl 0 rfl) ?_
        refine lv_dup hx hb dX3_skipBlanks_22 rfl ?_
        refine x_getI C hw fa_X3_34 ta0 dX3_skipBlanks_23 ?_
        refine lv_iconst hx hb dX3_skipBlanks_26 ki_1 ?_
        refine lv_iadd hx hb dX3_skipBlanks_27 ?_
        refine x_putI C hw fa_X3_34 ta0 dX3_skipBlanks_28 (fun m104 H locs em104 hw => ?_)
        have hf := nm_el hf em104
        obtain ⟨x105, ex105⟩ : ∃ z : Int32, z = x2 + 1 := ⟨_, rfl⟩
        have hf := nm_el hf ex105
        refine lv_iinc (v := x105) (lv' := [(2, .int x105), (0, .ref a0), (1, .ref a1)]) hx hb dX3_skipBlanks_31 hl (k := 2) rfl (by rw [ex105, ki_1]) (by decide) rfl (fun ls hl => ?_)
        refine lv_goto (tgt := 2) hx hb dX3_skipBlanks_34 (by decide) ?_
        exact ih _ _ _ _ _ (lv_sub hl [1, 2, 0] rfl) hw hf
set_option maxHeartbeats 4000000 in
set_option maxRecDepth 100000 in
theorem k_X3_skipBlanks {l : Launch} {D : va_G} {E : Nat → ClassId} {tU : Nat} {τ : Nat → Option XTy} {a0 : Nat} {a1 : Nat} {m0 mE : XMem} (hm : mT m0 = τ) (ta0 : τ a0 = some (.inl 3)) (ta1 : τ a1 = some (.inl 5)) (hf : f_X3_skipBlanks a0 a1 m0 = some mE) : Ct l yX3_skipBlanks cX3_skipBlanks 3 ((Option.none : Option FieldType)) 2 0 0 D E tU [.ref a0, .ref a1] m0 (none) mE (mT mE = mT m0 ∧ True) := by
  subst hm
  refine Ct.of (by decide) (Nat.le_of_ble_eq_true rfl) (fun p e s m below meth c ls C hr hk hnm hl hw => ?_)
  have hx := C.1
  have hb := C.2.1
  have hl : lv_has ls 3 [(0, .ref a0), (1, .ref a1)] := hl
  unfold f_X3_skipBlanks at hf
  refine lv_iconst hx hb dX3_skipBlanks_0 ki_0 ?_
  refine lv_istore_n (lv' := [(2, .int 0), (0, .ref a0), (1, .ref a1)]) hx hb dX3_skipBlanks_1 rfl hl (by decide) rfl (fun ls hl => ?_)
  refine w_X3_skipBlanks_h2 C hr hk hnm ta0 ta1 ?_ 2000 _ _ _ _ _ (lv_sub hl [1, 2, 0] rfl) hw hf
  intro m101 H locs ls hl hw hf
  exact x_ret C hr hk hw  hf (by decide) (by decide) dX3_skipBlanks_37
set_option maxHeartbeats 4000000 in
set_option maxRecDepth 100000 in
theorem k_X3_isLetter {l : Launch} {D : va_G} {E : Nat → ClassId} {tU : Nat} {τ : Nat → Option XTy} {x0 : Int32} {m0 mE : XMem} {rE : Int32} (hm : mT m0 = τ)  (hf : f_X3_isLetter x0 m0 = some (rE, mE)) : Ct l yX3_isLetter cX3_isLetter 1 ((Option.some FieldType.boolean)) 1 0 0 D E tU [.int x0] m0 (some (.int rE)) mE (mT mE = mT m0 ∧ (rE = 0 ∨ rE = 1)) := by
  subst hm
  refine Ct.of (by decide) (Nat.le_of_ble_eq_true rfl) (fun p e s m below meth c ls C hr hk hnm hl hw => ?_)
  have hx := C.1
  have hb := C.2.1
  have hl : lv_has ls 1 [(0, .int x0)] := hl
  unfold f_X3_isLetter at hf
  refine lv_iload_n hx hb dX3_isLetter_0 rfl (lv_at hl 0 rfl) ?_
  refine lv_bipush hx hb dX3_isLetter_1 kb_97 ?_
  refine lv_icmp_lt (tgt := 16) hx hb dX3_isLetter_3 (by decide) (fun c => ?_) (fun c => ?_)
  · have hf := ifp hf c
    refine lv_iconst hx hb dX3_isLetter_16 ki_0 ?_
    exact x_retZ C hr hk (Or.inl rfl) hw  hf (by decide) (by decide) dX3_isLetter_17
  · have hf := ifn hf c
    refine lv_iload_n hx hb dX3_isLetter_6 rfl (lv_at hl 0 rfl) ?_
    refine lv_bipush hx hb dX3_isLetter_7 kb_122 ?_
    refine lv_icmp_gt (tgt := 16) hx hb dX3_isLetter_9 (by decide) (fun c => ?_) (fun c => ?_)
    · have hf := ifp hf c
      refine lv_iconst hx hb dX3_isLetter_16 ki_0 ?_
      exact x_retZ C hr hk (Or.inl rfl) hw  hf (by decide) (by decide) dX3_isLetter_17
    · have hf := ifn hf c
      refine lv_iconst hx hb dX3_isLetter_12 ki_1 ?_
      refine lv_goto (tgt := 17) hx hb dX3_isLetter_13 (by decide) ?_
      exact x_retZ C hr hk (Or.inr rfl) hw  hf (by decide) (by decide) dX3_isLetter_17
set_option maxHeartbeats 4000000 in
set_option maxRecDepth 100000 in
theorem w_X3_nextWord_h4 {p : Program} {l : Launch} {e : Env} {s : State} {m : MethodId} {args : Array Value} {below : List Frame} {meth : Method} {c : Code} {D : va_G} {E : Nat → ClassId} {tU : Nat} {m0 mE : XMem} {rE : Int32} (C : Cx p s m args c cX3_nextWord 4 RX3 D E (Am m0) tU) (hr : meth.sig.returnType = ((Option.some FieldType.int))) (hk : meth.locks = false) (hnm : meth.name = yX3_nextWord.name) {a0 : Nat} {a1 : Nat} (ta0 : mT m0 a0 = some (.inl 3)) (ta1 : mT m0 a1 = some (.inl 5)) {k54 : Int32 → Int32 →  XMem → Option (Int32 × XMem)} (hk54 : ∀ (y2 : Int32) (y3 : Int32) (mu : XMem) (H : Heap) (locs : List Loc) (ls : Array Slot), lv_has ls 4 [(2, .int y2), (3, .int y3)] → Wd D E (Am m0) s (mT m0) mu H locs →   k54 y2 y3 mu = some (rE, mE) → W p l e (rmN 2 0 0) s m args below meth c H locs 0 0 (MQ below (XQ D E (Am m0) (some (.int rE)) mE (mT mE = mT m0 ∧ True)) args s 0 0 (Am m0)) (F0 m 54 ls [])) : ∀ (n : Nat) (x2 : Int32) (x3 : Int32) (mu : XMem) (H : Heap) (locs : List Loc) (ls : Array Slot), lv_has ls 4 [(0, .ref a0), (1, .ref a1), (2, .int x2), (3, .int x3)] → Wd D E (Am m0) s (mT m0) mu H locs → f_X3_nextWord_h4 a0 a1 k54 n x2 x3 mu = some (rE, mE) → W p l e (rmN 2 0 0) s m args below meth c H locs 0 0 (MQ below (XQ D E (Am m0) (some (.int rE)) mE (mT mE = mT m0 ∧ True)) args s 0 0 (Am m0)) (F0 m 4 ls []) := by
  have hx := C.1
  have hb := C.2.1
  intro n
  induction n with
  | zero =>
    intros
    rename_i hf
    cases hf
  | succ n ih =>
    intro x2 x3 mu H locs ls hl hw hf
    rw [f_X3_nextWord_h4] at hf
    refine lv_iload_n hx hb dX3_nextWord_4 rfl (lv_at hl 3 rfl) ?_
    refine lv_bipush hx hb dX3_nextWord_5 kb_100 ?_
    refine lv_icmp_ge (tgt := 54) hx hb dX3_nextWord_7 (by decide) (fun c => ?_) (fun c => ?_)
    · have hf := ifp hf c
      exact hk54 _ _ _ _ _ _ (lv_sub hl [2, 3] rfl) hw hf
    · have hf := ifn hf c
      refine lv_aload_n hx hb dX3_nextWord_10 rfl (lv_at hl 1 rfl) ?_
      refine lv_aload_n hx hb dX3_nextWord_11 rfl (lv_at hl 0 rfl) ?_
      refine x_getI C hw fa_X3_34 ta0 dX3_nextWord_12 ?_
      obtain ⟨r107, m106, cm106, hf⟩ := b2_el (o := f_X5_byteAt a1 (mI mu a0 7) mu) hf
      refine x_callVi (As := [.int (mI mu a0 7)]) (rest := []) C hl.1 hw cb_X3_61 cv_X5_byteAt (k_X5_byteAt hw.2.2.2.2 ta1 cm106) ta1 rfl rfl (by decide) ⟨Nat.le_refl _, Nat.le_refl _⟩ rfl (Nat.le_of_ble_eq_true rfl) dX3_nextWord_15 (fun H locs hw tr107 => ?_)
      obtain ⟨r109, m108, cm108, hf⟩ := b2_el (o := f_X3_isLetter r107 m106) hf
      refine x_callSi (As := [.int r107]) (rest := []) C hl.1 hw cb_X3_65 cs_X3_isLetter (k_X3_isLetter hw.2.2.2.2  cm108) rfl (by decide) ⟨Nat.le_refl _, Nat.le_refl _⟩ rfl (Nat.le_of_ble_eq_true rfl) dX3_nextWord_18 (fun H locs hw tr109 => ?_)
      refine lv_if_eq (tgt := 54) hx hb dX3_nextWord_21 (by decide) (fun c => ?_) (fun c => ?_)
      · have hf := ifp hf c
        exact hk54 _ _ _ _ _ _ (lv_sub hl [2, 3] rfl) hw hf
      · have hf := ifn hf c
        refine lv_iload_n hx hb dX3_nextWord_24 rfl (lv_at hl 2 rfl) ?_
        refine lv_bipush hx hb dX3_nextWord_25 kb_8 ?_
        refine lv_ishl hx hb dX3_nextWord_27 ?_
        refine lv_aload_n hx hb dX3_nextWord_28 rfl (lv_at hl 1 rfl) ?_
        refine lv_aload_n hx hb dX3_nextWord_29 rfl (lv_at hl 0 rfl) ?_
        refine x_getI C hw fa_X3_34 ta0 dX3_nextWord_30 ?_
        obtain ⟨r111, m110, cm110, hf⟩ := b2_el (o := f_X5_byteAt a1 (mI m108 a0 7) m108) hf
        refine x_callVi (As := [.int (mI m108 a0 7)]) (rest := [.int (x2 <<< (8 &&& 31))]) C hl.1 hw cb_X3_61 cv_X5_byteAt (k_X5_byteAt hw.2.2.2.2 ta1 cm110) ta1 rfl rfl (by decide) ⟨Nat.le_refl _, Nat.le_refl _⟩ rfl (Nat.le_of_ble_eq_true rfl) dX3_nextWord_33 (fun H locs hw tr111 => ?_)
        refine lv_ior hx hb dX3_nextWord_36 ?_
        refine lv_topi (fun x112 ex112 => ?_)
        have hf := nm_el hf ex112
        refine lv_istore_n (lv' := [(2, .int x112), (0, .ref a0), (1, .ref a1), (3, .int x3)]) hx hb dX3_nextWord_37 rfl hl (by decide) rfl (fun ls hl => ?_)
        obtain ⟨x113, ex113⟩ : ∃ z : Int32, z = x3 + 1 := ⟨_, rfl⟩
        have hf := nm_el hf ex113
        refine lv_iinc (v := x113) (lv' := [(3, .int x113), (2, .int x112), (0, .ref a0), (1, .ref a1)]) hx hb dX3_nextWord_38 hl (k := 3) rfl (by rw [ex113, ki_1]) (by decide) rfl (fun ls hl => ?_)
        refine lv_aload_n hx hb dX3_nextWord_41 rfl (lv_at hl 2 rfl) ?_
        refine lv_dup hx hb dX3_nextWord_42 rfl ?_
        refine x_getI C hw fa_X3_34 ta0 dX3_nextWord_43 ?_
        refine lv_iconst hx hb dX3_nextWord_46 ki_1 ?_
        refine lv_iadd hx hb dX3_nextWord_47 ?_
        refine x_putI C hw fa_X3_34 ta0 dX3_nextWord_48 (fun m114 H locs em114 hw => ?_)
        have hf := nm_el hf em114
        refine lv_goto (tgt := 4) hx hb dX3_nextWord_51 (by decide) ?_
        exact ih _ _ _ _ _ _ (lv_sub hl [2, 3, 1, 0] rfl) hw hf
set_option maxHeartbeats 4000000 in
set_option maxRecDepth 100000 in
theorem k_X3_nextWord {l : Launch} {D : va_G} {E : Nat → ClassId} {tU : Nat} {τ : Nat → Option XTy} {a0 : Nat} {a1 : Nat} {m0 mE : XMem} {rE : Int32} (hm : mT m0 = τ) (ta0 : τ a0 = some (.inl 3)) (ta1 : τ a1 = some (.inl 5)) (hf : f_X3_nextWord a0 a1 m0 = some (rE, mE)) : Ct l yX3_nextWord cX3_nextWord 4 ((Option.some FieldType.int)) 2 0 0 D E tU [.ref a0, .ref a1] m0 (some (.int rE)) mE (mT mE = mT m0 ∧ True) := by
  subst hm
  refine Ct.of (by decide) (Nat.le_of_ble_eq_true rfl) (fun p e s m below meth c ls C hr hk hnm hl hw => ?_)
  have hx := C.1
  have hb := C.2.1
  have hl : lv_has ls 4 [(0, .ref a0), (1, .ref a1)] := hl
  unfold f_X3_nextWord at hf
  refine lv_iconst hx hb dX3_nextWord_0 ki_0 ?_
  refine lv_istore_n (lv' := [(2, .int 0), (0, .ref a0), (1, .ref a1)]) hx hb dX3_nextWord_1 rfl hl (by decide) rfl (fun ls hl => ?_)
  refine lv_iconst hx hb dX3_nextWord_2 ki_0 ?_
  refine lv_istore_n (lv' := [(3, .int 0), (2, .int 0), (0, .ref a0), (1, .ref a1)]) hx hb dX3_nextWord_3 rfl hl (by decide) rfl (fun ls hl => ?_)
  refine w_X3_nextWord_h4 C hr hk hnm ta0 ta1 ?_ 2000 _ _ _ _ _ _ (lv_sub hl [2, 3, 1, 0] rfl) hw hf
  intro x102 x103 m101 H locs ls hl hw hf
  refine lv_iload_n hx hb dX3_nextWord_54 rfl (lv_at hl 1 rfl) ?_
  refine lv_iconst hx hb dX3_nextWord_55 ki_4 ?_
  refine lv_icmp_le (tgt := 64) hx hb dX3_nextWord_56 (by decide) (fun c => ?_) (fun c => ?_)
  · have hf := ifp hf c
    refine lv_iload_n hx hb dX3_nextWord_64 rfl (lv_at hl 0 rfl) ?_
    obtain ⟨r105, m104, cm104, hf⟩ := b2_el (o := f_X3_codeOf x102 m101) hf
    refine x_callSi (As := [.int x102]) (rest := []) C hl.1 hw cb_X3_95 cs_X3_codeOf (k_X3_codeOf hw.2.2.2.2  cm104) rfl (by decide) ⟨Nat.le_refl _, Nat.le_refl _⟩ rfl (Nat.le_of_ble_eq_true rfl) dX3_nextWord_65 (fun H locs hw tr105 => ?_)
    exact x_retI C hr hk hw  hf (by decide) (by decide) dX3_nextWord_68
  · have hf := ifn hf c
    refine lv_bipush hx hb dX3_nextWord_59 kb_m13 ?_
    refine lv_goto (tgt := 68) hx hb dX3_nextWord_61 (by decide) ?_
    exact x_retI C hr hk hw  hf (by decide) (by decide) dX3_nextWord_68
set_option maxHeartbeats 4000000 in
set_option maxRecDepth 100000 in
theorem k_X3_takesWord {l : Launch} {D : va_G} {E : Nat → ClassId} {tU : Nat} {τ : Nat → Option XTy} {a0 : Nat} {x1 : Int32} {m0 mE : XMem} {rE : Int32} (hm : mT m0 = τ) (ta0 : τ a0 = some (.inl 3)) (hf : f_X3_takesWord a0 x1 m0 = some (rE, mE)) : Ct l yX3_takesWord cX3_takesWord 2 ((Option.some FieldType.boolean)) 2 0 0 D E tU [.ref a0, .int x1] m0 (some (.int rE)) mE (mT mE = mT m0 ∧ (rE = 0 ∨ rE = 1)) := by
  subst hm
  refine Ct.of (by decide) (Nat.le_of_ble_eq_true rfl) (fun p e s m below meth c ls C hr hk hnm hl hw => ?_)
  have hx := C.1
  have hb := C.2.1
  have hl : lv_has ls 2 [(0, .ref a0), (1, .int x1)] := hl
  unfold f_X3_takesWord at hf
  refine lv_aload_n hx hb dX3_takesWord_0 rfl (lv_at hl 0 rfl) ?_
  refine x_getI C hw fa_X3_28 ta0 dX3_takesWord_1 ?_
  refine lv_if_ne (tgt := 13) hx hb dX3_takesWord_4 (by decide) (fun c => ?_) (fun c => ?_)
  · have hf := ifn hf c
    refine lv_iconst hx hb dX3_takesWord_13 ki_0 ?_
    exact x_retZ C hr hk (Or.inl rfl) hw  hf (by decide) (by decide) dX3_takesWord_14
  · have hf := ifp hf c
    refine lv_iload_n hx hb dX3_takesWord_7 rfl (lv_at hl 1 rfl) ?_
    refine lv_bipush hx hb dX3_takesWord_8 kb_m13 ?_
    refine lv_icmp_ne (tgt := 15) hx hb dX3_takesWord_10 (by decide) (fun c => ?_) (fun c => ?_)
    · have hf := ifn hf c
      refine lv_iload_n hx hb dX3_takesWord_15 rfl (lv_at hl 1 rfl) ?_
      refine lv_bipush hx hb dX3_takesWord_16 kb_m5 ?_
      refine lv_icmp_lt (tgt := 34) hx hb dX3_takesWord_18 (by decide) (fun c => ?_) (fun c => ?_)
      · have hf := ifp hf c
        refine lv_aload_n hx hb dX3_takesWord_34 rfl (lv_at hl 0 rfl) ?_
        refine lv_iload_n hx hb dX3_takesWord_35 rfl (lv_at hl 1 rfl) ?_
        refine x_putI C hw fa_X3_31 ta0 dX3_takesWord_36 (fun m101 H locs em101 hw => ?_)
        have hf := nm_el hf em101
        refine lv_aload_n hx hb dX3_takesWord_39 rfl (lv_at hl 0 rfl) ?_
        refine lv_iconst hx hb dX3_takesWord_40 ki_1 ?_
        refine x_putI C hw fa_X3_28 ta0 dX3_takesWord_41 (fun m102 H locs em102 hw => ?_)
        have hf := nm_el hf em102
        refine lv_iconst hx hb dX3_takesWord_44 ki_1 ?_
        exact x_retZ C hr hk (Or.inr rfl) hw  hf (by decide) (by decide) dX3_takesWord_45
      · have hf := ifn hf c
        refine lv_aload_n hx hb dX3_takesWord_21 rfl (lv_at hl 0 rfl) ?_
        refine lv_iload_n hx hb dX3_takesWord_22 rfl (lv_at hl 1 rfl) ?_
        obtain ⟨m103, cm103, hf⟩ := b1_el (o := f_X3_emit a0 x1 m0) hf
        refine x_callVv (As := [.int x1]) (rest := []) C hl.1 hw cb_X3_101 cv_X3_emit (k_X3_emit hw.2.2.2.2 ta0 cm103) ta0 rfl rfl (by decide) ⟨Nat.le_refl _, Nat.le_refl _⟩ rfl (Nat.le_of_ble_eq_true rfl) dX3_takesWord_23 (fun H locs hw tm103 => ?_)
        refine lv_aload_n hx hb dX3_takesWord_26 rfl (lv_at hl 0 rfl) ?_
        refine lv_iconst hx hb dX3_takesWord_27 ki_2 ?_
        refine x_putI C hw fa_X3_28 ta0 dX3_takesWord_28 (fun m104 H locs em104 hw => ?_)
        have hf := nm_el hf em104
        refine lv_goto (tgt := 44) hx hb dX3_takesWord_31 (by decide) ?_
        refine lv_iconst hx hb dX3_takesWord_44 ki_1 ?_
        exact x_retZ C hr hk (Or.inr rfl) hw  hf (by decide) (by decide) dX3_takesWord_45
    · have hf := ifp hf c
      refine lv_iconst hx hb dX3_takesWord_13 ki_0 ?_
      exact x_retZ C hr hk (Or.inl rfl) hw  hf (by decide) (by decide) dX3_takesWord_14
set_option maxHeartbeats 4000000 in
set_option maxRecDepth 100000 in
theorem k_X3_isDigit {l : Launch} {D : va_G} {E : Nat → ClassId} {tU : Nat} {τ : Nat → Option XTy} {x0 : Int32} {m0 mE : XMem} {rE : Int32} (hm : mT m0 = τ)  (hf : f_X3_isDigit x0 m0 = some (rE, mE)) : Ct l yX3_isDigit cX3_isDigit 1 ((Option.some FieldType.boolean)) 1 0 0 D E tU [.int x0] m0 (some (.int rE)) mE (mT mE = mT m0 ∧ (rE = 0 ∨ rE = 1)) := by
  subst hm
  refine Ct.of (by decide) (Nat.le_of_ble_eq_true rfl) (fun p e s m below meth c ls C hr hk hnm hl hw => ?_)
  have hx := C.1
  have hb := C.2.1
  have hl : lv_has ls 1 [(0, .int x0)] := hl
  unfold f_X3_isDigit at hf
  refine lv_iload_n hx hb dX3_isDigit_0 rfl (lv_at hl 0 rfl) ?_
  refine lv_bipush hx hb dX3_isDigit_1 kb_48 ?_
  refine lv_icmp_lt (tgt := 16) hx hb dX3_isDigit_3 (by decide) (fun c => ?_) (fun c => ?_)
  · have hf := ifp hf c
    refine lv_iconst hx hb dX3_isDigit_16 ki_0 ?_
    exact x_retZ C hr hk (Or.inl rfl) hw  hf (by decide) (by decide) dX3_isDigit_17
  · have hf := ifn hf c
    refine lv_iload_n hx hb dX3_isDigit_6 rfl (lv_at hl 0 rfl) ?_
    refine lv_bipush hx hb dX3_isDigit_7 kb_57 ?_
    refine lv_icmp_gt (tgt := 16) hx hb dX3_isDigit_9 (by decide) (fun c => ?_) (fun c => ?_)
    · have hf := ifp hf c
      refine lv_iconst hx hb dX3_isDigit_16 ki_0 ?_
      exact x_retZ C hr hk (Or.inl rfl) hw  hf (by decide) (by decide) dX3_isDigit_17
    · have hf := ifn hf c
      refine lv_iconst hx hb dX3_isDigit_12 ki_1 ?_
      refine lv_goto (tgt := 17) hx hb dX3_isDigit_13 (by decide) ?_
      exact x_retZ C hr hk (Or.inr rfl) hw  hf (by decide) (by decide) dX3_isDigit_17
set_option maxHeartbeats 4000000 in
set_option maxRecDepth 100000 in
theorem w_X3_nextNumber_h4 {p : Program} {l : Launch} {e : Env} {s : State} {m : MethodId} {args : Array Value} {below : List Frame} {meth : Method} {c : Code} {D : va_G} {E : Nat → ClassId} {tU : Nat} {m0 mE : XMem} {rE : Int32} (C : Cx p s m args c cX3_nextNumber 4 RX3 D E (Am m0) tU) (hr : meth.sig.returnType = ((Option.some FieldType.int))) (hk : meth.locks = false) (hnm : meth.name = yX3_nextNumber.name) {a0 : Nat} {a1 : Nat} (ta0 : mT m0 a0 = some (.inl 3)) (ta1 : mT m0 a1 = some (.inl 5)) {k63 : Int32 →  XMem → Option (Int32 × XMem)} (hk63 : ∀ (y2 : Int32) (mu : XMem) (H : Heap) (locs : List Loc) (ls : Array Slot), lv_has ls 4 [(2, .int y2)] → Wd D E (Am m0) s (mT m0) mu H locs →   k63 y2 mu = some (rE, mE) → W p l e (rmN 2 0 0) s m args below meth c H locs 0 0 (MQ below (XQ D E (Am m0) (some (.int rE)) mE (mT mE = mT m0 ∧ True)) args s 0 0 (Am m0)) (F0 m 63 ls [])) : ∀ (n : Nat) (x2 : Int32) (x3 : Int32) (mu : XMem) (H : Heap) (locs : List Loc) (ls : Array Slot), lv_has ls 4 [(0, .ref a0), (1, .ref a1), (2, .int x2), (3, .int x3)] → Wd D E (Am m0) s (mT m0) mu H locs → f_X3_nextNumber_h4 a0 a1 k63 n x2 x3 mu = some (rE, mE) → W p l e (rmN 2 0 0) s m args below meth c H locs 0 0 (MQ below (XQ D E (Am m0) (some (.int rE)) mE (mT mE = mT m0 ∧ True)) args s 0 0 (Am m0)) (F0 m 4 ls []) := by
  have hx := C.1
  have hb := C.2.1
  intro n
  induction n with
  | zero =>
    intros
    rename_i hf
    cases hf
  | succ n ih =>
    intro x2 x3 mu H locs ls hl hw hf
    rw [f_X3_nextNumber_h4] at hf
    refine lv_iload_n hx hb dX3_nextNumber_4 rfl (lv_at hl 3 rfl) ?_
    refine lv_bipush hx hb dX3_nextNumber_5 kb_100 ?_
    refine lv_icmp_ge (tgt := 63) hx hb dX3_nextNumber_7 (by decide) (fun c => ?_) (fun c => ?_)
    · have hf := ifp hf c
      exact hk63 _ _ _ _ _ (lv_sub hl [2] rfl) hw hf
    · have hf := ifn hf c
      refine lv_aload_n hx hb dX3_nextNumber_10 rfl (lv_at hl 1 rfl) ?_
      refine lv_aload_n hx hb dX3_nextNumber_11 rfl (lv_at hl 0 rfl) ?_
      refine x_getI C hw fa_X3_34 ta0 dX3_nextNumber_12 ?_
      obtain ⟨r104, m103, cm103, hf⟩ := b2_el (o := f_X5_byteAt a1 (mI mu a0 7) mu) hf
      refine x_callVi (As := [.int (mI mu a0 7)]) (rest := []) C hl.1 hw cb_X3_61 cv_X5_byteAt (k_X5_byteAt hw.2.2.2.2 ta1 cm103) ta1 rfl rfl (by decide) ⟨Nat.le_refl _, Nat.le_refl _⟩ rfl (Nat.le_of_ble_eq_true rfl) dX3_nextNumber_15 (fun H locs hw tr104 => ?_)
      obtain ⟨r106, m105, cm105, hf⟩ := b2_el (o := f_X3_isDigit r104 m103) hf
      refine x_callSi (As := [.int r104]) (rest := []) C hl.1 hw cb_X3_76 cs_X3_isDigit (k_X3_isDigit hw.2.2.2.2  cm105) rfl (by decide) ⟨Nat.le_refl _, Nat.le_refl _⟩ rfl (Nat.le_of_ble_eq_true rfl) dX3_nextNumber_18 (fun H locs hw tr106 => ?_)
      refine lv_if_eq (tgt := 63) hx hb dX3_nextNumber_21 (by decide) (fun c => ?_) (fun c => ?_)
      · have hf := ifp hf c
        exact hk63 _ _ _ _ _ (lv_sub hl [2] rfl) hw hf
      · have hf := ifn hf c
        refine lv_sipush hx hb dX3_nextNumber_24 ks_10000 ?_
        refine lv_iload_n hx hb dX3_nextNumber_27 rfl (lv_at hl 2 rfl) ?_
        refine lv_bipush hx hb dX3_nextNumber_28 kb_10 ?_
        refine lv_imul hx hb dX3_nextNumber_30 ?_
        refine lv_aload_n hx hb dX3_nextNumber_31 rfl (lv_at hl 1 rfl) ?_
        refine lv_aload_n hx hb dX3_nextNumber_32 rfl (lv_at hl 0 rfl) ?_
        refine x_getI C hw fa_X3_34 ta0 dX3_nextNumber_33 ?_
        obtain ⟨r108, m107, cm107, hf⟩ := b2_el (o := f_X5_byteAt a1 (mI m105 a0 7) m105) hf
        refine x_callVi (As := [.int (mI m105 a0 7)]) (rest := [.int (x2 * 10), .int 10000]) C hl.1 hw cb_X3_61 cv_X5_byteAt (k_X5_byteAt hw.2.2.2.2 ta1 cm107) ta1 rfl rfl (by decide) ⟨Nat.le_refl _, Nat.le_refl _⟩ rfl (Nat.le_of_ble_eq_true rfl) dX3_nextNumber_36 (fun H locs hw tr108 => ?_)
        refine lv_iadd hx hb dX3_nextNumber_39 ?_
        refine lv_bipush hx hb dX3_nextNumber_40 kb_48 ?_
        refine lv_isub hx hb dX3_nextNumber_42 ?_
        refine x_mmin C hl.1 km_X3_98 (by decide) (Nat.le_of_ble_eq_true rfl) (by decide) (Nat.zero_le _) (Nat.zero_le _) dX3_nextNumber_43 ?_
        refine lv_topi (fun x109 ex109 => ?_)
        have hf := nm_el hf ex109
        refine lv_istore_n (lv' := [(2, .int x109), (0, .ref a0), (1, .ref a1), (3, .int x3)]) hx hb dX3_nextNumber_46 rfl hl (by decide) rfl (fun ls hl => ?_)
        refine lv_aload_n hx hb dX3_nextNumber_47 rfl (lv_at hl 1 rfl) ?_
        refine lv_dup hx hb dX3_nextNumber_48 rfl ?_
        refine x_getI C hw fa_X3_34 ta0 dX3_nextNumber_49 ?_
        refine lv_iconst hx hb dX3_nextNumber_52 ki_1 ?_
        refine lv_iadd hx hb dX3_nextNumber_53 ?_
        refine x_putI C hw fa_X3_34 ta0 dX3_nextNumber_54 (fun m110 H locs em110 hw => ?_)
        have hf := nm_el hf em110
        obtain ⟨x111, ex111⟩ : ∃ z : Int32, z = x3 + 1 := ⟨_, rfl⟩
        have hf := nm_el hf ex111
        refine lv_iinc (v := x111) (lv' := [(3, .int x111), (2, .int x109), (0, .ref a0), (1, .ref a1)]) hx hb dX3_nextNumber_57 hl (k := 3) rfl (by rw [ex111, ki_1]) (by decide) rfl (fun ls hl => ?_)
        refine lv_goto (tgt := 4) hx hb dX3_nextNumber_60 (by decide) ?_
        exact ih _ _ _ _ _ _ (lv_sub hl [2, 3, 1, 0] rfl) hw hf
set_option maxHeartbeats 4000000 in
set_option maxRecDepth 100000 in
theorem k_X3_nextNumber {l : Launch} {D : va_G} {E : Nat → ClassId} {tU : Nat} {τ : Nat → Option XTy} {a0 : Nat} {a1 : Nat} {m0 mE : XMem} {rE : Int32} (hm : mT m0 = τ) (ta0 : τ a0 = some (.inl 3)) (ta1 : τ a1 = some (.inl 5)) (hf : f_X3_nextNumber a0 a1 m0 = some (rE, mE)) : Ct l yX3_nextNumber cX3_nextNumber 4 ((Option.some FieldType.int)) 2 0 0 D E tU [.ref a0, .ref a1] m0 (some (.int rE)) mE (mT mE = mT m0 ∧ True) := by
  subst hm
  refine Ct.of (by decide) (Nat.le_of_ble_eq_true rfl) (fun p e s m below meth c ls C hr hk hnm hl hw => ?_)
  have hx := C.1
  have hb := C.2.1
  have hl : lv_has ls 4 [(0, .ref a0), (1, .ref a1)] := hl
  unfold f_X3_nextNumber at hf
  refine lv_iconst hx hb dX3_nextNumber_0 ki_0 ?_
  refine lv_istore_n (lv' := [(2, .int 0), (0, .ref a0), (1, .ref a1)]) hx hb dX3_nextNumber_1 rfl hl (by decide) rfl (fun ls hl => ?_)
  refine lv_iconst hx hb dX3_nextNumber_2 ki_0 ?_
  refine lv_istore_n (lv' := [(3, .int 0), (2, .int 0), (0, .ref a0), (1, .ref a1)]) hx hb dX3_nextNumber_3 rfl hl (by decide) rfl (fun ls hl => ?_)
  refine w_X3_nextNumber_h4 C hr hk hnm ta0 ta1 ?_ 2000 _ _ _ _ _ _ (lv_sub hl [2, 3, 1, 0] rfl) hw hf
  intro x102 m101 H locs ls hl hw hf
  refine lv_iload_n hx hb dX3_nextNumber_63 rfl (lv_at hl 0 rfl) ?_
  exact x_retI C hr hk hw  hf (by decide) (by decide) dX3_nextNumber_64
set_option maxHeartbeats 4000000 in
set_option maxRecDepth 100000 in
theorem k_X3_takesNumber {l : Launch} {D : va_G} {E : Nat → ClassId} {tU : Nat} {τ : Nat → Option XTy} {a0 : Nat} {x1 : Int32} {m0 mE : XMem} {rE : Int32} (hm : mT m0 = τ) (ta0 : τ a0 = some (.inl 3)) (hf : f_X3_takesNumber a0 x1 m0 = some (rE, mE)) : Ct l yX3_takesNumber cX3_takesNumber 2 ((Option.some FieldType.boolean)) 2 0 0 D E tU [.ref a0, .int x1] m0 (some (.int rE)) mE (mT mE = mT m0 ∧ (rE = 0 ∨ rE = 1)) := by
  subst hm
  refine Ct.of (by decide) (Nat.le_of_ble_eq_true rfl) (fun p e s m below meth c ls C hr hk hnm hl hw => ?_)
  have hx := C.1
  have hb := C.2.1
  have hl : lv_has ls 2 [(0, .ref a0), (1, .int x1)] := hl
  unfold f_X3_takesNumber at hf
  refine lv_aload_n hx hb dX3_takesNumber_0 rfl (lv_at hl 0 rfl) ?_
  refine x_getI C hw fa_X3_28 ta0 dX3_takesNumber_1 ?_
  refine lv_if_ne (tgt := 14) hx hb dX3_takesNumber_4 (by decide) (fun c => ?_) (fun c => ?_)
  · have hf := ifn hf c
    refine lv_iconst hx hb dX3_takesNumber_14 ki_0 ?_
    exact x_retZ C hr hk (Or.inl rfl) hw  hf (by decide) (by decide) dX3_takesNumber_15
  · have hf := ifp hf c
    refine lv_iload_n hx hb dX3_takesNumber_7 rfl (lv_at hl 1 rfl) ?_
    refine lv_sipush hx hb dX3_takesNumber_8 ks_9999 ?_
    refine lv_icmp_le (tgt := 16) hx hb dX3_takesNumber_11 (by decide) (fun c => ?_) (fun c => ?_)
    · have hf := ifp hf c
      refine lv_aload_n hx hb dX3_takesNumber_16 rfl (lv_at hl 0 rfl) ?_
      refine lv_iload_n hx hb dX3_takesNumber_17 rfl (lv_at hl 1 rfl) ?_
      obtain ⟨m101, cm101, hf⟩ := b1_el (o := f_X3_emit a0 x1 m0) hf
      refine x_callVv (As := [.int x1]) (rest := []) C hl.1 hw cb_X3_101 cv_X3_emit (k_X3_emit hw.2.2.2.2 ta0 cm101) ta0 rfl rfl (by decide) ⟨Nat.le_refl _, Nat.le_refl _⟩ rfl (Nat.le_of_ble_eq_true rfl) dX3_takesNumber_18 (fun H locs hw tm101 => ?_)
      refine lv_aload_n hx hb dX3_takesNumber_21 rfl (lv_at hl 0 rfl) ?_
      refine lv_iconst hx hb dX3_takesNumber_22 ki_2 ?_
      refine x_putI C hw fa_X3_28 ta0 dX3_takesNumber_23 (fun m102 H locs em102 hw => ?_)
      have hf := nm_el hf em102
      refine lv_iconst hx hb dX3_takesNumber_26 ki_1 ?_
      exact x_retZ C hr hk (Or.inr rfl) hw  hf (by decide) (by decide) dX3_takesNumber_27
    · have hf := ifn hf c
      refine lv_iconst hx hb dX3_takesNumber_14 ki_0 ?_
      exact x_retZ C hr hk (Or.inl rfl) hw  hf (by decide) (by decide) dX3_takesNumber_15
set_option maxHeartbeats 4000000 in
set_option maxRecDepth 100000 in
theorem w_X3_takesOpen_j76 {p : Program} {l : Launch} {e : Env} {s : State} {m : MethodId} {args : Array Value} {below : List Frame} {meth : Method} {c : Code} {D : va_G} {E : Nat → ClassId} {tU : Nat} {m0 mE : XMem} {rE : Int32} (C : Cx p s m args c cX3_takesOpen 1 RX3 D E (Am m0) tU) (hr : meth.sig.returnType = ((Option.some FieldType.boolean))) (hk : meth.locks = false) (hnm : meth.name = yX3_takesOpen.name) {a0 : Nat} {xs0 : Int32} {xs1 : Int32} {as2 : Nat} {mu : XMem} {H : Heap} {locs : List Loc} {ls : Array Slot} (ta0 : mT m0 a0 = some (.inl 3)) (tas2 : ∃ n, mT m0 as2 = some (.inr (0, n))) (hl : lv_has ls 1 [(0, .ref a0)]) (hw : Wd D E (Am m0) s (mT m0) mu H locs) (hf : f_X3_takesOpen_j76 a0 xs0 xs1 as2 mu = some (rE, mE)) : W p l e (rmN 1 0 0) s m args below meth c H locs 0 0 (MQ below (XQ D E (Am m0) (some (.int rE)) mE (mT mE = mT m0 ∧ (rE = 0 ∨ rE = 1))) args s 0 0 (Am m0)) (F0 m 76 ls [.int xs0, .int xs1, .ref as2]) := by
  have hx := C.1
  have hb := C.2.1
  unfold f_X3_takesOpen_j76 at hf
  obtain ⟨g107, hf⟩ := gd_el hf
  refine x_iast C hw tas2 g107 dX3_takesOpen_76 (fun m108 H locs em108 hw => ?_)
  have hf := nm_el hf em108
  refine lv_aload_n hx hb dX3_takesOpen_77 rfl (lv_at hl 0 rfl) ?_
  refine lv_dup hx hb dX3_takesOpen_78 rfl ?_
  refine x_getI C hw fa_X3_25 ta0 dX3_takesOpen_79 ?_
  refine lv_iconst hx hb dX3_takesOpen_82 ki_1 ?_
  refine lv_iadd hx hb dX3_takesOpen_83 ?_
  refine x_putI C hw fa_X3_25 ta0 dX3_takesOpen_84 (fun m109 H locs em109 hw => ?_)
  have hf := nm_el hf em109
  refine lv_aload_n hx hb dX3_takesOpen_87 rfl (lv_at hl 0 rfl) ?_
  refine lv_iconst hx hb dX3_takesOpen_88 ki_0 ?_
  refine x_putI C hw fa_X3_28 ta0 dX3_takesOpen_89 (fun m110 H locs em110 hw => ?_)
  have hf := nm_el hf em110
  refine lv_iconst hx hb dX3_takesOpen_92 ki_1 ?_
  exact x_retZ C hr hk (Or.inr rfl) hw  hf (by decide) (by decide) dX3_takesOpen_93
set_option maxHeartbeats 4000000 in
set_option maxRecDepth 100000 in
theorem k_X3_takesOpen {l : Launch} {D : va_G} {E : Nat → ClassId} {tU : Nat} {τ : Nat → Option XTy} {a0 : Nat} {m0 mE : XMem} {rE : Int32} (hm : mT m0 = τ) (ta0 : τ a0 = some (.inl 3)) (hf : f_X3_takesOpen a0 m0 = some (rE, mE)) : Ct l yX3_takesOpen cX3_takesOpen 1 ((Option.some FieldType.boolean)) 1 0 0 D E tU [.ref a0] m0 (some (.int rE)) mE (mT mE = mT m0 ∧ (rE = 0 ∨ rE = 1)) := by
  subst hm
  refine Ct.of (by decide) (Nat.le_of_ble_eq_true rfl) (fun p e s m below meth c ls C hr hk hnm hl hw => ?_)
  have hx := C.1
  have hb := C.2.1
  have hl : lv_has ls 1 [(0, .ref a0)] := hl
  unfold f_X3_takesOpen at hf
  refine lv_aload_n hx hb dX3_takesOpen_0 rfl (lv_at hl 0 rfl) ?_
  refine x_getI C hw fa_X3_28 ta0 dX3_takesOpen_1 ?_
  refine lv_iconst hx hb dX3_takesOpen_4 ki_1 ?_
  refine lv_icmp_ne (tgt := 39) hx hb dX3_takesOpen_5 (by decide) (fun c => ?_) (fun c => ?_)
  · have hf := ifn hf c
    refine lv_iconst hx hb dX3_takesOpen_39 ki_0 ?_
    exact x_retZ C hr hk (Or.inl rfl) hw  hf (by decide) (by decide) dX3_takesOpen_40
  · have hf := ifp hf c
    refine lv_aload_n hx hb dX3_takesOpen_8 rfl (lv_at hl 0 rfl) ?_
    refine x_getI C hw fa_X3_25 ta0 dX3_takesOpen_9 ?_
    refine lv_if_lt (tgt := 39) hx hb dX3_takesOpen_12 (by decide) (fun c => ?_) (fun c => ?_)
    · have hf := ifp hf c
      refine lv_iconst hx hb dX3_takesOpen_39 ki_0 ?_
      exact x_retZ C hr hk (Or.inl rfl) hw  hf (by decide) (by decide) dX3_takesOpen_40
    · have hf := ifn hf c
      refine lv_aload_n hx hb dX3_takesOpen_15 rfl (lv_at hl 0 rfl) ?_
      refine x_getI C hw fa_X3_25 ta0 dX3_takesOpen_16 ?_
      refine lv_aload_n hx hb dX3_takesOpen_19 rfl (lv_at hl 0 rfl) ?_
      obtain ⟨b101, eb101, hf⟩ := fo_el hf
      refine x_getR C hw fa_X3_19 (Or.inr ⟨_, rfl⟩) ta0 eb101 dX3_takesOpen_20 (fun tb101 => ?_)
      have tb101 : ∃ n, (mT m0) b101 = some (.inr (0, n)) := tb101
      refine x_alen (ek := 0) C hw rfl tb101 dX3_takesOpen_23 ?_
      refine lv_icmp_ge (tgt := 39) hx hb dX3_takesOpen_24 (by decide) (fun c => ?_) (fun c => ?_)
      · have hf := ifp hf c
        refine lv_iconst hx hb dX3_takesOpen_39 ki_0 ?_
        exact x_retZ C hr hk (Or.inl rfl) hw  hf (by decide) (by decide) dX3_takesOpen_40
      · have hf := ifn hf c
        refine lv_aload_n hx hb dX3_takesOpen_27 rfl (lv_at hl 0 rfl) ?_
        refine x_getI C hw fa_X3_25 ta0 dX3_takesOpen_28 ?_
        refine lv_aload_n hx hb dX3_takesOpen_31 rfl (lv_at hl 0 rfl) ?_
        obtain ⟨b102, eb102, hf⟩ := fo_el hf
        refine x_getR C hw fa_X3_22 (Or.inr ⟨_, rfl⟩) ta0 eb102 dX3_takesOpen_32 (fun tb102 => ?_)
        have tb102 : ∃ n, (mT m0) b102 = some (.inr (0, n)) := tb102
        refine x_alen (ek := 0) C hw rfl tb102 dX3_takesOpen_35 ?_
        refine lv_icmp_lt (tgt := 41) hx hb dX3_takesOpen_36 (by decide) (fun c => ?_) (fun c => ?_)
        · have hf := ifp hf c
          refine lv_aload_n hx hb dX3_takesOpen_41 rfl (lv_at hl 0 rfl) ?_
          obtain ⟨b103, eb103, hf⟩ := fo_el hf
          refine x_getR C hw fa_X3_19 (Or.inr ⟨_, rfl⟩) ta0 eb103 dX3_takesOpen_42 (fun tb103 => ?_)
          have tb103 : ∃ n, (mT m0) b103 = some (.inr (0, n)) := tb103
          refine lv_aload_n hx hb dX3_takesOpen_45 rfl (lv_at hl 0 rfl) ?_
          refine x_getI C hw fa_X3_25 ta0 dX3_takesOpen_46 ?_
          refine lv_aload_n hx hb dX3_takesOpen_49 rfl (lv_at hl 0 rfl) ?_
          refine x_getI C hw fa_X3_31 ta0 dX3_takesOpen_50 ?_
          obtain ⟨g104, hf⟩ := gd_el hf
          refine x_iast C hw tb103 g104 dX3_takesOpen_53 (fun m105 H locs em105 hw => ?_)
          have hf := nm_el hf em105
          refine lv_aload_n hx hb dX3_takesOpen_54 rfl (lv_at hl 0 rfl) ?_
          obtain ⟨b106, eb106, hf⟩ := fo_el hf
          refine x_getR C hw fa_X3_22 (Or.inr ⟨_, rfl⟩) ta0 eb106 dX3_takesOpen_55 (fun tb106 => ?_)
          have tb106 : ∃ n, (mT m0) b106 = some (.inr (0, n)) := tb106
          refine lv_aload_n hx hb dX3_takesOpen_58 rfl (lv_at hl 0 rfl) ?_
          refine x_getI C hw fa_X3_25 ta0 dX3_takesOpen_59 ?_
          refine lv_aload_n hx hb dX3_takesOpen_62 rfl (lv_at hl 0 rfl) ?_
          refine x_getI C hw fa_X3_31 ta0 dX3_takesOpen_63 ?_
          refine lv_bipush hx hb dX3_takesOpen_66 kb_m12 ?_
          refine lv_icmp_ne (tgt := 75) hx hb dX3_takesOpen_68 (by decide) (fun c => ?_) (fun c => ?_)
          · have hf := ifn hf c
            refine lv_iconst hx hb dX3_takesOpen_75 ki_1 ?_
            exact w_X3_takesOpen_j76 C hr hk hnm ta0 tb106 (lv_sub hl [0] rfl) hw hf
          · have hf := ifp hf c
            refine lv_iconst hx hb dX3_takesOpen_71 ki_2 ?_
            refine lv_goto (tgt := 76) hx hb dX3_takesOpen_72 (by decide) ?_
            exact w_X3_takesOpen_j76 C hr hk hnm ta0 tb106 (lv_sub hl [0] rfl) hw hf
        · have hf := ifn hf c
          refine lv_iconst hx hb dX3_takesOpen_39 ki_0 ?_
          exact x_retZ C hr hk (Or.inl rfl) hw  hf (by decide) (by decide) dX3_takesOpen_40
set_option maxHeartbeats 4000000 in
set_option maxRecDepth 100000 in
theorem k_X3_takesComma {l : Launch} {D : va_G} {E : Nat → ClassId} {tU : Nat} {τ : Nat → Option XTy} {a0 : Nat} {m0 mE : XMem} {rE : Int32} (hm : mT m0 = τ) (ta0 : τ a0 = some (.inl 3)) (hf : f_X3_takesComma a0 m0 = some (rE, mE)) : Ct l yX3_takesComma cX3_takesComma 2 ((Option.some FieldType.boolean)) 1 0 0 D E tU [.ref a0] m0 (some (.int rE)) mE (mT mE = mT m0 ∧ (rE = 0 ∨ rE = 1)) := by
  subst hm
  refine Ct.of (by decide) (Nat.le_of_ble_eq_true rfl) (fun p e s m below meth c ls C hr hk hnm hl hw => ?_)
  have hx := C.1
  have hb := C.2.1
  have hl : lv_has ls 2 [(0, .ref a0)] := hl
  unfold f_X3_takesComma at hf
  refine lv_aload_n hx hb dX3_takesComma_0 rfl (lv_at hl 0 rfl) ?_
  refine x_getI C hw fa_X3_25 ta0 dX3_takesComma_1 ?_
  refine lv_iconst hx hb dX3_takesComma_4 ki_1 ?_
  refine lv_isub hx hb dX3_takesComma_5 ?_
  refine lv_topi (fun x101 ex101 => ?_)
  have hf := nm_el hf ex101
  refine lv_istore_n (lv' := [(1, .int x101), (0, .ref a0)]) hx hb dX3_takesComma_6 rfl hl (by decide) rfl (fun ls hl => ?_)
  refine lv_aload_n hx hb dX3_takesComma_7 rfl (lv_at hl 1 rfl) ?_
  refine x_getI C hw fa_X3_28 ta0 dX3_takesComma_8 ?_
  refine lv_iconst hx hb dX3_takesComma_11 ki_2 ?_
  refine lv_icmp_ne (tgt := 37) hx hb dX3_takesComma_12 (by decide) (fun c => ?_) (fun c => ?_)
  · have hf := ifn hf c
    refine lv_iconst hx hb dX3_takesComma_37 ki_0 ?_
    exact x_retZ C hr hk (Or.inl rfl) hw  hf (by decide) (by decide) dX3_takesComma_38
  · have hf := ifp hf c
    refine lv_iload_n hx hb dX3_takesComma_15 rfl (lv_at hl 0 rfl) ?_
    refine lv_if_lt (tgt := 37) hx hb dX3_takesComma_16 (by decide) (fun c => ?_) (fun c => ?_)
    · have hf := ifp hf c
      refine lv_iconst hx hb dX3_takesComma_37 ki_0 ?_
      exact x_retZ C hr hk (Or.inl rfl) hw  hf (by decide) (by decide) dX3_takesComma_38
    · have hf := ifn hf c
      refine lv_iload_n hx hb dX3_takesComma_19 rfl (lv_at hl 0 rfl) ?_
      refine lv_aload_n hx hb dX3_takesComma_20 rfl (lv_at hl 1 rfl) ?_
      obtain ⟨b102, eb102, hf⟩ := fo_el hf
      refine x_getR C hw fa_X3_22 (Or.inr ⟨_, rfl⟩) ta0 eb102 dX3_takesComma_21 (fun tb102 => ?_)
      have tb102 : ∃ n, (mT m0) b102 = some (.inr (0, n)) := tb102
      refine x_alen (ek := 0) C hw rfl tb102 dX3_takesComma_24 ?_
      refine lv_icmp_ge (tgt := 37) hx hb dX3_takesComma_25 (by decide) (fun c => ?_) (fun c => ?_)
      · have hf := ifp hf c
        refine lv_iconst hx hb dX3_takesComma_37 ki_0 ?_
        exact x_retZ C hr hk (Or.inl rfl) hw  hf (by decide) (by decide) dX3_takesComma_38
      · have hf := ifn hf c
        refine lv_aload_n hx hb dX3_takesComma_28 rfl (lv_at hl 1 rfl) ?_
        obtain ⟨b103, eb103, hf⟩ := fo_el hf
        refine x_getR C hw fa_X3_22 (Or.inr ⟨_, rfl⟩) ta0 eb103 dX3_takesComma_29 (fun tb103 => ?_)
        have tb103 : ∃ n, (mT m0) b103 = some (.inr (0, n)) := tb103
        refine lv_iload_n hx hb dX3_takesComma_32 rfl (lv_at hl 0 rfl) ?_
        obtain ⟨g104, hf⟩ := gd_el hf
        refine x_iald C hw tb103 g104 dX3_takesComma_33 ?_
        refine lv_if_ne (tgt := 39) hx hb dX3_takesComma_34 (by decide) (fun c => ?_) (fun c => ?_)
        · have hf := ifn hf c
          refine lv_aload_n hx hb dX3_takesComma_39 rfl (lv_at hl 1 rfl) ?_
          obtain ⟨b105, eb105, hf⟩ := fo_el hf
          refine x_getR C hw fa_X3_22 (Or.inr ⟨_, rfl⟩) ta0 eb105 dX3_takesComma_40 (fun tb105 => ?_)
          have tb105 : ∃ n, (mT m0) b105 = some (.inr (0, n)) := tb105
          refine lv_iload_n hx hb dX3_takesComma_43 rfl (lv_at hl 0 rfl) ?_
          refine lv_dup2_11 hx hb dX3_takesComma_44 rfl rfl ?_
          obtain ⟨g106, hf⟩ := gd_el hf
          refine x_iald C hw tb105 g106 dX3_takesComma_45 ?_
          refine lv_iconst hx hb dX3_takesComma_46 ki_1 ?_
          refine lv_isub hx hb dX3_takesComma_47 ?_
          obtain ⟨g107, hf⟩ := gd_el hf
          refine x_iast C hw tb105 g107 dX3_takesComma_48 (fun m108 H locs em108 hw => ?_)
          have hf := nm_el hf em108
          refine lv_aload_n hx hb dX3_takesComma_49 rfl (lv_at hl 1 rfl) ?_
          refine lv_iconst hx hb dX3_takesComma_50 ki_0 ?_
          refine x_putI C hw fa_X3_28 ta0 dX3_takesComma_51 (fun m109 H locs em109 hw => ?_)
          have hf := nm_el hf em109
          refine lv_iconst hx hb dX3_takesComma_54 ki_1 ?_
          exact x_retZ C hr hk (Or.inr rfl) hw  hf (by decide) (by decide) dX3_takesComma_55
        · have hf := ifp hf c
          refine lv_iconst hx hb dX3_takesComma_37 ki_0 ?_
          exact x_retZ C hr hk (Or.inl rfl) hw  hf (by decide) (by decide) dX3_takesComma_38
set_option maxHeartbeats 4000000 in
set_option maxRecDepth 100000 in
theorem k_X3_takesClose {l : Launch} {D : va_G} {E : Nat → ClassId} {tU : Nat} {τ : Nat → Option XTy} {a0 : Nat} {m0 mE : XMem} {rE : Int32} (hm : mT m0 = τ) (ta0 : τ a0 = some (.inl 3)) (hf : f_X3_takesClose a0 m0 = some (rE, mE)) : Ct l yX3_takesClose cX3_takesClose 2 ((Option.some FieldType.boolean)) 2 0 0 D E tU [.ref a0] m0 (some (.int rE)) mE (mT mE = mT m0 ∧ (rE = 0 ∨ rE = 1)) := by
  subst hm
  refine Ct.of (by decide) (Nat.le_of_ble_eq_true rfl) (fun p e s m below meth c ls C hr hk hnm hl hw => ?_)
  have hx := C.1
  have hb := C.2.1
  have hl : lv_has ls 2 [(0, .ref a0)] := hl
  unfold f_X3_takesClose at hf
  refine lv_aload_n hx hb dX3_takesClose_0 rfl (lv_at hl 0 rfl) ?_
  refine x_getI C hw fa_X3_25 ta0 dX3_takesClose_1 ?_
  refine lv_iconst hx hb dX3_takesClose_4 ki_1 ?_
  refine lv_isub hx hb dX3_takesClose_5 ?_
  refine lv_topi (fun x101 ex101 => ?_)
  have hf := nm_el hf ex101
  refine lv_istore_n (lv' := [(1, .int x101), (0, .ref a0)]) hx hb dX3_takesClose_6 rfl hl (by decide) rfl (fun ls hl => ?_)
  refine lv_aload_n hx hb dX3_takesClose_7 rfl (lv_at hl 1 rfl) ?_
  refine x_getI C hw fa_X3_28 ta0 dX3_takesClose_8 ?_
  refine lv_iconst hx hb dX3_takesClose_11 ki_2 ?_
  refine lv_icmp_ne (tgt := 37) hx hb dX3_takesClose_12 (by decide) (fun c => ?_) (fun c => ?_)
  · have hf := ifn hf c
    refine lv_iconst hx hb dX3_takesClose_37 ki_0 ?_
    exact x_retZ C hr hk (Or.inl rfl) hw  hf (by decide) (by decide) dX3_takesClose_38
  · have hf := ifp hf c
    refine lv_iload_n hx hb dX3_takesClose_15 rfl (lv_at hl 0 rfl) ?_
    refine lv_if_lt (tgt := 37) hx hb dX3_takesClose_16 (by decide) (fun c => ?_) (fun c => ?_)
    · have hf := ifp hf c
      refine lv_iconst hx hb dX3_takesClose_37 ki_0 ?_
      exact x_retZ C hr hk (Or.inl rfl) hw  hf (by decide) (by decide) dX3_takesClose_38
    · have hf := ifn hf c
      refine lv_iload_n hx hb dX3_takesClose_19 rfl (lv_at hl 0 rfl) ?_
      refine lv_aload_n hx hb dX3_takesClose_20 rfl (lv_at hl 1 rfl) ?_
      obtain ⟨b102, eb102, hf⟩ := fo_el hf
      refine x_getR C hw fa_X3_19 (Or.inr ⟨_, rfl⟩) ta0 eb102 dX3_takesClose_21 (fun tb102 => ?_)
      have tb102 : ∃ n, (mT m0) b102 = some (.inr (0, n)) := tb102
      refine x_alen (ek := 0) C hw rfl tb102 dX3_takesClose_24 ?_
      refine lv_icmp_ge (tgt := 37) hx hb dX3_takesClose_25 (by decide) (fun c => ?_) (fun c => ?_)
      · have hf := ifp hf c
        refine lv_iconst hx hb dX3_takesClose_37 ki_0 ?_
        exact x_retZ C hr hk (Or.inl rfl) hw  hf (by decide) (by decide) dX3_takesClose_38
      · have hf := ifn hf c
        refine lv_iload_n hx hb dX3_takesClose_28 rfl (lv_at hl 0 rfl) ?_
        refine lv_aload_n hx hb dX3_takesClose_29 rfl (lv_at hl 1 rfl) ?_
        obtain ⟨b103, eb103, hf⟩ := fo_el hf
        refine x_getR C hw fa_X3_22 (Or.inr ⟨_, rfl⟩) ta0 eb103 dX3_takesClose_30 (fun tb103 => ?_)
        have tb103 : ∃ n, (mT m0) b103 = some (.inr (0, n)) := tb103
        refine x_alen (ek := 0) C hw rfl tb103 dX3_takesClose_33 ?_
        refine lv_icmp_lt (tgt := 39) hx hb dX3_takesClose_34 (by decide) (fun c => ?_) (fun c => ?_)
        · have hf := ifp hf c
          refine lv_aload_n hx hb dX3_takesClose_39 rfl (lv_at hl 1 rfl) ?_
          obtain ⟨b104, eb104, hf⟩ := fo_el hf
          refine x_getR C hw fa_X3_22 (Or.inr ⟨_, rfl⟩) ta0 eb104 dX3_takesClose_40 (fun tb104 => ?_)
          have tb104 : ∃ n, (mT m0) b104 = some (.inr (0, n)) := tb104
          refine lv_iload_n hx hb dX3_takesClose_43 rfl (lv_at hl 0 rfl) ?_
          obtain ⟨g105, hf⟩ := gd_el hf
          refine x_iald C hw tb104 g105 dX3_takesClose_44 ?_
          refine lv_if_eq (tgt := 50) hx hb dX3_takesClose_45 (by decide) (fun c => ?_) (fun c => ?_)
          · have hf := ifp hf c
            refine lv_aload_n hx hb dX3_takesClose_50 rfl (lv_at hl 1 rfl) ?_
            refine lv_aload_n hx hb dX3_takesClose_51 rfl (lv_at hl 1 rfl) ?_
            obtain ⟨b106, eb106, hf⟩ := fo_el hf
            refine x_getR C hw fa_X3_19 (Or.inr ⟨_, rfl⟩) ta0 eb106 dX3_takesClose_52 (fun tb106 => ?_)
            have tb106 : ∃ n, (mT m0) b106 = some (.inr (0, n)) := tb106
            refine lv_iload_n hx hb dX3_takesClose_55 rfl (lv_at hl 0 rfl) ?_
            obtain ⟨g107, hf⟩ := gd_el hf
            refine x_iald C hw tb106 g107 dX3_takesClose_56 ?_
            obtain ⟨m108, cm108, hf⟩ := b1_el (o := f_X3_emit a0 (mI m0 b106 (Int32.toNatClampNeg x101)) m0) hf
            refine x_callVv (As := [.int (mI m0 b106 (Int32.toNatClampNeg x101))]) (rest := []) C hl.1 hw cb_X3_101 cv_X3_emit (k_X3_emit hw.2.2.2.2 ta0 cm108) ta0 rfl rfl (by decide) ⟨Nat.le_refl _, Nat.le_refl _⟩ rfl (Nat.le_of_ble_eq_true rfl) dX3_takesClose_57 (fun H locs hw tm108 => ?_)
            refine lv_aload_n hx hb dX3_takesClose_60 rfl (lv_at hl 1 rfl) ?_
            refine lv_iload_n hx hb dX3_takesClose_61 rfl (lv_at hl 0 rfl) ?_
            refine x_putI C hw fa_X3_25 ta0 dX3_takesClose_62 (fun m109 H locs em109 hw => ?_)
            have hf := nm_el hf em109
            refine lv_iconst hx hb dX3_takesClose_65 ki_1 ?_
            exact x_retZ C hr hk (Or.inr rfl) hw  hf (by decide) (by decide) dX3_takesClose_66
          · have hf := ifn hf c
            refine lv_iconst hx hb dX3_takesClose_48 ki_0 ?_
            exact x_retZ C hr hk (Or.inl rfl) hw  hf (by decide) (by decide) dX3_takesClose_49
        · have hf := ifn hf c
          refine lv_iconst hx hb dX3_takesClose_37 ki_0 ?_
          exact x_retZ C hr hk (Or.inl rfl) hw  hf (by decide) (by decide) dX3_takesClose_38
