set_option maxHeartbeats 4000000 in
set_option maxRecDepth 100000 in
theorem k_X0_backOf {l : Launch} {D : va_G} {E : Nat → ClassId} {tU : Nat} {τ : Nat → Option XTy} {a0 : Nat} {x1 : Int32} {m0 mE : XMem} {rE : Int32} (hm : mT m0 = τ) (ta0 : τ a0 = some (.inl 0)) (hf : f_X0_backOf a0 x1 m0 = some (rE, mE)) : Ct l yX0_backOf cX0_backOf 2 ((Option.some FieldType.int)) 1 0 0 D E tU [.ref a0, .int x1] m0 (some (.int rE)) mE (mT mE = mT m0 ∧ True) := by
  subst hm
  refine Ct.of (by decide) (Nat.le_of_ble_eq_true rfl) (fun p e s m below meth c ls C hr hk hnm hl hw => ?_)
  have hx := C.1
  have hb := C.2.1
  have hl : lv_has ls 2 [(0, .ref a0), (1, .int x1)] := hl
  unfold f_X0_backOf at hf
  refine lv_aload_n hx hb dX0_backOf_0 rfl (lv_at hl 0 rfl) ?_
  refine x_getI C hw fa_X0_45 ta0 dX0_backOf_1 ?_
  by_cases c101 : (mI m0 a0 0) = 2
  · have hf := ifp hf c101
    refine lv_lookup (off := 28) (tgt := 32) hx hb dX0_backOf_4 (by decide) (by rw [c101]; try rfl) (by decide) ?_
    refine lv_iload_n hx hb dX0_backOf_32 rfl (lv_at hl 1 rfl) ?_
    refine lv_iconst hx hb dX0_backOf_33 ki_2 ?_
    refine lv_idiv hx hb dX0_backOf_34 (by decide) ?_
    exact x_retI C hr hk hw  hf (by decide) (by decide) dX0_backOf_35
  · have hf := ifn hf c101
    by_cases c102 : (mI m0 a0 0) = 5
    · have hf := ifp hf c102
      refine lv_lookup (off := 32) (tgt := 36) hx hb dX0_backOf_4 (by decide) (by rw [c102]; try rfl) (by decide) ?_
      refine lv_iload_n hx hb dX0_backOf_36 rfl (lv_at hl 1 rfl) ?_
      refine lv_iconst hx hb dX0_backOf_37 ki_2 ?_
      refine lv_idiv hx hb dX0_backOf_38 (by decide) ?_
      refine lv_iload_n hx hb dX0_backOf_39 rfl (lv_at hl 1 rfl) ?_
      refine lv_bipush hx hb dX0_backOf_40 kb_10 ?_
      refine lv_idiv hx hb dX0_backOf_42 (by decide) ?_
      refine lv_iadd hx hb dX0_backOf_43 ?_
      exact x_retI C hr hk hw  hf (by decide) (by decide) dX0_backOf_44
    · have hf := ifn hf c102
      refine lv_lookup (off := 41) (tgt := 45) hx hb dX0_backOf_4 (by decide) (by
          show Op.lookupswitch.offset [(2, 28), (5, 32)] 41 _ = _
          rw [lv_osw c101 (by decide), lv_osw c102 (by decide)]
          try rfl) (by decide) ?_
      refine lv_iconst hx hb dX0_backOf_45 ki_0 ?_
      exact x_retI C hr hk hw  hf (by decide) (by decide) dX0_backOf_46
set_option maxHeartbeats 4000000 in
set_option maxRecDepth 100000 in
theorem k_X0_begin {l : Launch} {D : va_G} {E : Nat → ClassId} {tU : Nat} {τ : Nat → Option XTy} {a0 : Nat} {m0 mE : XMem} (hm : mT m0 = τ) (ta0 : τ a0 = some (.inl 0)) (hf : f_X0_begin a0 m0 = some mE) : Ct l yX0_begin cX0_begin 1 ((Option.none : Option FieldType)) 1 0 0 D E tU [.ref a0] m0 (none) mE (mT mE = mT m0 ∧ True) := by
  subst hm
  refine Ct.of (by decide) (Nat.le_of_ble_eq_true rfl) (fun p e s m below meth c ls C hr hk hnm hl hw => ?_)
  have hx := C.1
  have hb := C.2.1
  have hl : lv_has ls 1 [(0, .ref a0)] := hl
  unfold f_X0_begin at hf
  refine lv_aload_n hx hb dX0_begin_0 rfl (lv_at hl 0 rfl) ?_
  refine lv_iconst hx hb dX0_begin_1 ki_0 ?_
  refine x_putI C hw fa_X0_9 ta0 dX0_begin_2 (fun m101 H locs em101 hw => ?_)
  have hf := nm_el hf em101
  refine lv_aload_n hx hb dX0_begin_5 rfl (lv_at hl 0 rfl) ?_
  refine lv_iconst hx hb dX0_begin_6 ki_0 ?_
  refine x_putI C hw fa_X0_15 ta0 dX0_begin_7 (fun m102 H locs em102 hw => ?_)
  have hf := nm_el hf em102
  refine lv_aload_n hx hb dX0_begin_10 rfl (lv_at hl 0 rfl) ?_
  refine lv_iconst hx hb dX0_begin_11 ki_0 ?_
  refine x_putI C hw fa_X0_18 ta0 dX0_begin_12 (fun m103 H locs em103 hw => ?_)
  have hf := nm_el hf em103
  refine lv_aload_n hx hb dX0_begin_15 rfl (lv_at hl 0 rfl) ?_
  refine lv_iconst hx hb dX0_begin_16 ki_0 ?_
  refine x_putI C hw fa_X0_21 ta0 dX0_begin_17 (fun m104 H locs em104 hw => ?_)
  have hf := nm_el hf em104
  refine lv_aload_n hx hb dX0_begin_20 rfl (lv_at hl 0 rfl) ?_
  refine lv_iconst hx hb dX0_begin_21 ki_0 ?_
  refine x_putI C hw fa_X0_24 ta0 dX0_begin_22 (fun m105 H locs em105 hw => ?_)
  have hf := nm_el hf em105
  refine lv_aload_n hx hb dX0_begin_25 rfl (lv_at hl 0 rfl) ?_
  refine lv_iconst hx hb dX0_begin_26 ki_0 ?_
  refine x_putI C hw fa_X0_27 ta0 dX0_begin_27 (fun m106 H locs em106 hw => ?_)
  have hf := nm_el hf em106
  refine lv_aload_n hx hb dX0_begin_30 rfl (lv_at hl 0 rfl) ?_
  refine lv_iconst hx hb dX0_begin_31 ki_0 ?_
  refine x_putI C hw fa_X0_30 ta0 dX0_begin_32 (fun m107 H locs em107 hw => ?_)
  have hf := nm_el hf em107
  refine lv_aload_n hx hb dX0_begin_35 rfl (lv_at hl 0 rfl) ?_
  refine lv_iconst hx hb dX0_begin_36 ki_0 ?_
  refine x_putI C hw fa_X0_33 ta0 dX0_begin_37 (fun m108 H locs em108 hw => ?_)
  have hf := nm_el hf em108
  refine lv_aload_n hx hb dX0_begin_40 rfl (lv_at hl 0 rfl) ?_
  refine lv_iconst hx hb dX0_begin_41 ki_0 ?_
  refine x_putI C hw fa_X0_36 ta0 dX0_begin_42 (fun m109 H locs em109 hw => ?_)
  have hf := nm_el hf em109
  refine lv_aload_n hx hb dX0_begin_45 rfl (lv_at hl 0 rfl) ?_
  refine lv_iconst hx hb dX0_begin_46 ki_0 ?_
  refine x_putI C hw fa_X0_39 ta0 dX0_begin_47 (fun m110 H locs em110 hw => ?_)
  have hf := nm_el hf em110
  refine lv_aload_n hx hb dX0_begin_50 rfl (lv_at hl 0 rfl) ?_
  refine lv_iconst hx hb dX0_begin_51 ki_0 ?_
  refine x_putI C hw fa_X0_42 ta0 dX0_begin_52 (fun m111 H locs em111 hw => ?_)
  have hf := nm_el hf em111
  exact x_ret C hr hk hw  hf (by decide) (by decide) dX0_begin_55
set_option maxHeartbeats 4000000 in
set_option maxRecDepth 100000 in
theorem k_X0_gasFrom {l : Launch} {D : va_G} {E : Nat → ClassId} {tU : Nat} {τ : Nat → Option XTy} {a0 : Nat} {x1 : Int32} {m0 mE : XMem} {rE : Int32} (hm : mT m0 = τ) (ta0 : τ a0 = some (.inl 0)) (hf : f_X0_gasFrom a0 x1 m0 = some (rE, mE)) : Ct l yX0_gasFrom cX0_gasFrom 2 ((Option.some FieldType.int)) 1 0 0 D E tU [.ref a0, .int x1] m0 (some (.int rE)) mE (mT mE = mT m0 ∧ True) := by
  subst hm
  refine Ct.of (by decide) (Nat.le_of_ble_eq_true rfl) (fun p e s m below meth c ls C hr hk hnm hl hw => ?_)
  have hx := C.1
  have hb := C.2.1
  have hl : lv_has ls 2 [(0, .ref a0), (1, .int x1)] := hl
  unfold f_X0_gasFrom at hf
  refine lv_iload_n hx hb dX0_gasFrom_0 rfl (lv_at hl 1 rfl) ?_
  refine lv_aload_n hx hb dX0_gasFrom_1 rfl (lv_at hl 0 rfl) ?_
  refine x_getI C hw fa_X0_57 ta0 dX0_gasFrom_2 ?_
  refine lv_imul hx hb dX0_gasFrom_5 ?_
  refine lv_bipush hx hb dX0_gasFrom_6 kb_100 ?_
  refine lv_idiv hx hb dX0_gasFrom_8 (by decide) ?_
  exact x_retI C hr hk hw  hf (by decide) (by decide) dX0_gasFrom_9
set_option maxHeartbeats 4000000 in
set_option maxRecDepth 100000 in
theorem k_X0_init {l : Launch} {D : va_G} {E : Nat → ClassId} {tU : Nat} {τ : Nat → Option XTy} {a0 : Nat} {m0 mE : XMem} (hm : mT m0 = τ) (ta0 : τ a0 = some (.inl 0)) (hf : f_X0_init a0 m0 = some mE) : Ct l yX0_init cX0_init 1 ((Option.none : Option FieldType)) 1 0 0 D E tU [.ref a0] m0 (none) mE (mT mE = mT m0 ∧ True) := by
  subst hm
  refine Ct.of (by decide) (Nat.le_of_ble_eq_true rfl) (fun p e s m below meth c ls C hr hk hnm hl hw => ?_)
  have hx := C.1
  have hb := C.2.1
  have hl : lv_has ls 1 [(0, .ref a0)] := hl
  unfold f_X0_init at hf
  refine lv_aload_n hx hb dX0_init_0 rfl (lv_at hl 0 rfl) ?_
  refine x_obj C hl.1 ko_X0_3 ko_i ko_c (by decide) (Nat.le_of_ble_eq_true rfl) (by decide) dX0_init_1 ?_
  exact x_ret C hr hk hw  hf (by decide) (by decide) dX0_init_4
set_option maxHeartbeats 4000000 in
set_option maxRecDepth 100000 in
theorem k_X0_powerThatCounts {l : Launch} {D : va_G} {E : Nat → ClassId} {tU : Nat} {τ : Nat → Option XTy} {a0 : Nat} {m0 mE : XMem} {rE : Int32} (hm : mT m0 = τ) (ta0 : τ a0 = some (.inl 0)) (hf : f_X0_powerThatCounts a0 m0 = some (rE, mE)) : Ct l yX0_powerThatCounts cX0_powerThatCounts 1 ((Option.some FieldType.int)) 1 0 0 D E tU [.ref a0] m0 (some (.int rE)) mE (mT mE = mT m0 ∧ True) := by
  subst hm
  refine Ct.of (by decide) (Nat.le_of_ble_eq_true rfl) (fun p e s m below meth c ls C hr hk hnm hl hw => ?_)
  have hx := C.1
  have hb := C.2.1
  have hl : lv_has ls 1 [(0, .ref a0)] := hl
  unfold f_X0_powerThatCounts at hf
  refine lv_aload_n hx hb dX0_powerThatCounts_0 rfl (lv_at hl 0 rfl) ?_
  refine x_getI C hw fa_X0_60 ta0 dX0_powerThatCounts_1 ?_
  refine lv_if_ne (tgt := 11) hx hb dX0_powerThatCounts_4 (by decide) (fun c => ?_) (fun c => ?_)
  · have hf := ifn hf c
    refine lv_aload_n hx hb dX0_powerThatCounts_11 rfl (lv_at hl 0 rfl) ?_
    refine x_getI C hw fa_X0_48 ta0 dX0_powerThatCounts_12 ?_
    exact x_retI C hr hk hw  hf (by decide) (by decide) dX0_powerThatCounts_15
  · have hf := ifp hf c
    refine lv_iconst hx hb dX0_powerThatCounts_7 ki_0 ?_
    refine lv_goto (tgt := 15) hx hb dX0_powerThatCounts_8 (by decide) ?_
    exact x_retI C hr hk hw  hf (by decide) (by decide) dX0_powerThatCounts_15
set_option maxHeartbeats 4000000 in
set_option maxRecDepth 100000 in
theorem k_X0_toHeat {l : Launch} {D : va_G} {E : Nat → ClassId} {tU : Nat} {τ : Nat → Option XTy} {a0 : Nat} {x1 : Int32} {m0 mE : XMem} {rE : Int32} (hm : mT m0 = τ) (ta0 : τ a0 = some (.inl 0)) (hf : f_X0_toHeat a0 x1 m0 = some (rE, mE)) : Ct l yX0_toHeat cX0_toHeat 4 ((Option.some FieldType.int)) 1 0 0 D E tU [.ref a0, .int x1] m0 (some (.int rE)) mE (mT mE = mT m0 ∧ True) := by
  subst hm
  refine Ct.of (by decide) (Nat.le_of_ble_eq_true rfl) (fun p e s m below meth c ls C hr hk hnm hl hw => ?_)
  have hx := C.1
  have hb := C.2.1
  have hl : lv_has ls 4 [(0, .ref a0), (1, .int x1)] := hl
  unfold f_X0_toHeat at hf
  refine lv_aload_n hx hb dX0_toHeat_0 rfl (lv_at hl 0 rfl) ?_
  refine x_getI C hw fa_X0_45 ta0 dX0_toHeat_1 ?_
  refine lv_iconst hx hb dX0_toHeat_4 ki_3 ?_
  refine lv_icmp_eq (tgt := 10) hx hb dX0_toHeat_5 (by decide) (fun c => ?_) (fun c => ?_)
  · have hf := ifp hf c
    refine lv_iload_n hx hb dX0_toHeat_10 rfl (lv_at hl 1 rfl) ?_
    refine lv_iconst hx hb dX0_toHeat_11 ki_5 ?_
    refine lv_idiv hx hb dX0_toHeat_12 (by decide) ?_
    refine lv_topi (fun x101 ex101 => ?_)
    have hf := nm_el hf ex101
    refine lv_istore_n (lv' := [(2, .int x101), (0, .ref a0), (1, .int x1)]) hx hb dX0_toHeat_13 rfl hl (by decide) rfl (fun ls hl => ?_)
    refine lv_aload_n hx hb dX0_toHeat_14 rfl (lv_at hl 1 rfl) ?_
    refine lv_dup hx hb dX0_toHeat_15 rfl ?_
    refine x_getI C hw fa_X0_15 ta0 dX0_toHeat_16 ?_
    refine lv_iload_n hx hb dX0_toHeat_19 rfl (lv_at hl 0 rfl) ?_
    refine lv_iadd hx hb dX0_toHeat_20 ?_
    refine x_putI C hw fa_X0_15 ta0 dX0_toHeat_21 (fun m102 H locs em102 hw => ?_)
    have hf := nm_el hf em102
    refine lv_aload_n hx hb dX0_toHeat_24 rfl (lv_at hl 1 rfl) ?_
    refine x_getI C hw fa_X0_15 ta0 dX0_toHeat_25 ?_
    refine lv_sipush hx hb dX0_toHeat_28 ks_1000 ?_
    refine lv_icmp_ge (tgt := 38) hx hb dX0_toHeat_31 (by decide) (fun c => ?_) (fun c => ?_)
    · have hf := ifp hf c
      refine lv_aload_n hx hb dX0_toHeat_38 rfl (lv_at hl 1 rfl) ?_
      refine x_getI C hw fa_X0_15 ta0 dX0_toHeat_39 ?_
      refine lv_topi (fun x103 ex103 => ?_)
      have hf := nm_el hf ex103
      refine lv_istore_n (lv' := [(3, .int x103), (2, .int x101), (0, .ref a0), (1, .int x1)]) hx hb dX0_toHeat_42 rfl hl (by decide) rfl (fun ls hl => ?_)
      refine lv_aload_n hx hb dX0_toHeat_43 rfl (lv_at hl 2 rfl) ?_
      refine lv_iconst hx hb dX0_toHeat_44 ki_0 ?_
      refine x_putI C hw fa_X0_15 ta0 dX0_toHeat_45 (fun m104 H locs em104 hw => ?_)
      have hf := nm_el hf em104
      refine lv_iload_n hx hb dX0_toHeat_48 rfl (lv_at hl 3 rfl) ?_
      refine lv_iload_n hx hb dX0_toHeat_49 rfl (lv_at hl 1 rfl) ?_
      refine lv_isub hx hb dX0_toHeat_50 ?_
      refine lv_iload_n hx hb dX0_toHeat_51 rfl (lv_at hl 0 rfl) ?_
      refine lv_iadd hx hb dX0_toHeat_52 ?_
      exact x_retI C hr hk hw  hf (by decide) (by decide) dX0_toHeat_53
    · have hf := ifn hf c
      refine lv_iload_n hx hb dX0_toHeat_34 rfl (lv_at hl 2 rfl) ?_
      refine lv_iload_n hx hb dX0_toHeat_35 rfl (lv_at hl 0 rfl) ?_
      refine lv_isub hx hb dX0_toHeat_36 ?_
      exact x_retI C hr hk hw  hf (by decide) (by decide) dX0_toHeat_37
  · have hf := ifn hf c
    refine lv_iload_n hx hb dX0_toHeat_8 rfl (lv_at hl 1 rfl) ?_
    exact x_retI C hr hk hw  hf (by decide) (by decide) dX0_toHeat_9
set_option maxHeartbeats 4000000 in
set_option maxRecDepth 100000 in
theorem k_X0_warmth {l : Launch} {D : va_G} {E : Nat → ClassId} {tU : Nat} {τ : Nat → Option XTy} {a0 : Nat} {m0 mE : XMem} {rE : Int32} (hm : mT m0 = τ) (ta0 : τ a0 = some (.inl 0)) (hf : f_X0_warmth a0 m0 = some (rE, mE)) : Ct l yX0_warmth cX0_warmth 1 ((Option.some FieldType.int)) 1 0 0 D E tU [.ref a0] m0 (some (.int rE)) mE (mT mE = mT m0 ∧ True) := by
  subst hm
  refine Ct.of (by decide) (Nat.le_of_ble_eq_true rfl) (fun p e s m below meth c ls C hr hk hnm hl hw => ?_)
  have hx := C.1
  have hb := C.2.1
  have hl : lv_has ls 1 [(0, .ref a0)] := hl
  unfold f_X0_warmth at hf
  refine lv_aload_n hx hb dX0_warmth_0 rfl (lv_at hl 0 rfl) ?_
  refine x_getI C hw fa_X0_54 ta0 dX0_warmth_1 ?_
  refine lv_if_ne (tgt := 11) hx hb dX0_warmth_4 (by decide) (fun c => ?_) (fun c => ?_)
  · have hf := ifn hf c
    refine lv_aload_n hx hb dX0_warmth_11 rfl (lv_at hl 0 rfl) ?_
    refine x_getI C hw fa_X0_9 ta0 dX0_warmth_12 ?_
    refine lv_aload_n hx hb dX0_warmth_15 rfl (lv_at hl 0 rfl) ?_
    refine x_getI C hw fa_X0_54 ta0 dX0_warmth_16 ?_
    obtain ⟨g101, hf⟩ := gd_el hf
    refine lv_idiv hx hb dX0_warmth_19 (nz_ne g101) ?_
    exact x_retI C hr hk hw  hf (by decide) (by decide) dX0_warmth_20
  · have hf := ifp hf c
    refine lv_iconst hx hb dX0_warmth_7 ki_0 ?_
    refine lv_goto (tgt := 20) hx hb dX0_warmth_8 (by decide) ?_
    exact x_retI C hr hk hw  hf (by decide) (by decide) dX0_warmth_20
set_option maxHeartbeats 4000000 in
set_option maxRecDepth 100000 in
theorem k_X0_passHour {l : Launch} {D : va_G} {E : Nat → ClassId} {tU : Nat} {τ : Nat → Option XTy} {a0 : Nat} {x1 : Int32} {m0 mE : XMem} (hm : mT m0 = τ) (ta0 : τ a0 = some (.inl 0)) (hf : f_X0_passHour a0 x1 m0 = some mE) : Ct l yX0_passHour cX0_passHour 3 ((Option.none : Option FieldType)) 2 0 0 D E tU [.ref a0, .int x1] m0 (none) mE (mT mE = mT m0 ∧ True) := by
  subst hm
  refine Ct.of (by decide) (Nat.le_of_ble_eq_true rfl) (fun p e s m below meth c ls C hr hk hnm hl hw => ?_)
  have hx := C.1
  have hb := C.2.1
  have hl : lv_has ls 3 [(0, .ref a0), (1, .int x1)] := hl
  unfold f_X0_passHour at hf
  refine lv_aload_n hx hb dX0_passHour_0 rfl (lv_at hl 0 rfl) ?_
  refine lv_aload_n hx hb dX0_passHour_1 rfl (lv_at hl 0 rfl) ?_
  obtain ⟨r102, m101, cm101, hf⟩ := b2_el (o := f_X0_powerThatCounts a0 m0) hf
  refine x_callVi (As := []) (rest := [.ref a0]) C hl.1 hw cb_X0_67 cv_X0_powerThatCounts (k_X0_powerThatCounts hw.2.2.2.2 ta0 cm101) ta0 rfl rfl (by decide) ⟨Nat.le_refl _, Nat.le_refl _⟩ rfl (Nat.le_of_ble_eq_true rfl) dX0_passHour_2 (fun H locs hw tr102 => ?_)
  refine x_putI C hw fa_X0_18 ta0 dX0_passHour_5 (fun m103 H locs em103 hw => ?_)
  have hf := nm_el hf em103
  refine lv_aload_n hx hb dX0_passHour_8 rfl (lv_at hl 0 rfl) ?_
  refine lv_aload_n hx hb dX0_passHour_9 rfl (lv_at hl 0 rfl) ?_
  refine x_getI C hw fa_X0_18 ta0 dX0_passHour_10 ?_
  obtain ⟨r105, m104, cm104, hf⟩ := b2_el (o := f_X0_gasFrom a0 (mI m103 a0 8) m103) hf
  refine x_callVi (As := [.int (mI m103 a0 8)]) (rest := []) C hl.1 hw cb_X0_70 cv_X0_gasFrom (k_X0_gasFrom hw.2.2.2.2 ta0 cm104) ta0 rfl rfl (by decide) ⟨Nat.le_refl _, Nat.le_refl _⟩ rfl (Nat.le_of_ble_eq_true rfl) dX0_passHour_13 (fun H locs hw tr105 => ?_)
  refine lv_istore_n (lv' := [(2, .int r105), (0, .ref a0), (1, .int x1)]) hx hb dX0_passHour_16 rfl hl (by decide) rfl (fun ls hl => ?_)
  refine lv_aload_n hx hb dX0_passHour_17 rfl (lv_at hl 1 rfl) ?_
  refine lv_iload_n hx hb dX0_passHour_18 rfl (lv_at hl 0 rfl) ?_
  refine lv_aload_n hx hb dX0_passHour_19 rfl (lv_at hl 1 rfl) ?_
  refine lv_iload_n hx hb dX0_passHour_20 rfl (lv_at hl 0 rfl) ?_
  obtain ⟨r107, m106, cm106, hf⟩ := b2_el (o := f_X0_backOf a0 r105 m104) hf
  refine x_callVi (As := [.int r105]) (rest := [.int r105, .ref a0]) C hl.1 hw cb_X0_74 cv_X0_backOf (k_X0_backOf hw.2.2.2.2 ta0 cm106) ta0 rfl rfl (by decide) ⟨Nat.le_refl _, Nat.le_refl _⟩ rfl (Nat.le_of_ble_eq_true rfl) dX0_passHour_21 (fun H locs hw tr107 => ?_)
  refine lv_isub hx hb dX0_passHour_24 ?_
  refine x_putI C hw fa_X0_21 ta0 dX0_passHour_25 (fun m108 H locs em108 hw => ?_)
  have hf := nm_el hf em108
  refine lv_aload_n hx hb dX0_passHour_28 rfl (lv_at hl 1 rfl) ?_
  refine lv_iconst hx hb dX0_passHour_29 ki_0 ?_
  refine lv_aload_n hx hb dX0_passHour_30 rfl (lv_at hl 1 rfl) ?_
  refine x_getI C hw fa_X0_60 ta0 dX0_passHour_31 ?_
  refine lv_iload_n hx hb dX0_passHour_34 rfl (lv_at hl 0 rfl) ?_
  refine lv_bipush hx hb dX0_passHour_35 kb_99 ?_
  refine lv_iadd hx hb dX0_passHour_37 ?_
  refine lv_bipush hx hb dX0_passHour_38 kb_100 ?_
  refine lv_idiv hx hb dX0_passHour_40 (by decide) ?_
  refine lv_isub hx hb dX0_passHour_41 ?_
  refine x_mmax C hl.1 km_X0_77 (by decide) (Nat.le_of_ble_eq_true rfl) (by decide) (Nat.zero_le _) (Nat.zero_le _) dX0_passHour_42 ?_
  refine lv_topi (fun x109 ex109 => ?_)
  have hf := nm_el hf ex109
  refine x_putI C hw fa_X0_60 ta0 dX0_passHour_45 (fun m110 H locs em110 hw => ?_)
  have hf := nm_el hf em110
  refine lv_aload_n hx hb dX0_passHour_48 rfl (lv_at hl 1 rfl) ?_
  refine lv_iload_n hx hb dX0_passHour_49 rfl (lv_at hl 2 rfl) ?_
  refine x_putI C hw fa_X0_24 ta0 dX0_passHour_50 (fun m111 H locs em111 hw => ?_)
  have hf := nm_el hf em111
  refine lv_aload_n hx hb dX0_passHour_53 rfl (lv_at hl 1 rfl) ?_
  refine lv_dup hx hb dX0_passHour_54 rfl ?_
  refine x_getI C hw fa_X0_9 ta0 dX0_passHour_55 ?_
  refine lv_aload_n hx hb dX0_passHour_58 rfl (lv_at hl 1 rfl) ?_
  refine lv_aload_n hx hb dX0_passHour_59 rfl (lv_at hl 1 rfl) ?_
  refine x_getI C hw fa_X0_18 ta0 dX0_passHour_60 ?_
  refine lv_aload_n hx hb dX0_passHour_63 rfl (lv_at hl 1 rfl) ?_
  refine x_getI C hw fa_X0_21 ta0 dX0_passHour_64 ?_
  refine lv_isub hx hb dX0_passHour_67 ?_
  obtain ⟨r113, m112, cm112, hf⟩ := b2_el (o := f_X0_toHeat a0 ((mI m111 a0 8) - (mI m111 a0 9)) m111) hf
  refine x_callVi (As := [.int ((mI m111 a0 8) - (mI m111 a0 9))]) (rest := [.int (mI m111 a0 6), .ref a0]) C hl.1 hw cb_X0_83 cv_X0_toHeat (k_X0_toHeat hw.2.2.2.2 ta0 cm112) ta0 rfl rfl (by decide) ⟨Nat.le_refl _, Nat.le_refl _⟩ rfl (Nat.le_of_ble_eq_true rfl) dX0_passHour_68 (fun H locs hw tr113 => ?_)
  refine lv_aload_n hx hb dX0_passHour_71 rfl (lv_at hl 1 rfl) ?_
  refine x_getI C hw fa_X0_24 ta0 dX0_passHour_72 ?_
  refine lv_iadd hx hb dX0_passHour_75 ?_
  refine lv_iadd hx hb dX0_passHour_76 ?_
  refine x_putI C hw fa_X0_9 ta0 dX0_passHour_77 (fun m114 H locs em114 hw => ?_)
  have hf := nm_el hf em114
  refine lv_aload_n hx hb dX0_passHour_80 rfl (lv_at hl 1 rfl) ?_
  refine lv_aload_n hx hb dX0_passHour_81 rfl (lv_at hl 1 rfl) ?_
  refine x_getI C hw fa_X0_9 ta0 dX0_passHour_82 ?_
  refine lv_aload_n hx hb dX0_passHour_85 rfl (lv_at hl 1 rfl) ?_
  obtain ⟨r116, m115, cm115, hf⟩ := b2_el (o := f_X0_warmth a0 m114) hf
  refine x_callVi (As := []) (rest := [.int (mI m114 a0 6), .ref a0]) C hl.1 hw cb_X0_63 cv_X0_warmth (k_X0_warmth hw.2.2.2.2 ta0 cm115) ta0 rfl rfl (by decide) ⟨Nat.le_refl _, Nat.le_refl _⟩ rfl (Nat.le_of_ble_eq_true rfl) dX0_passHour_86 (fun H locs hw tr116 => ?_)
  refine lv_aload_n hx hb dX0_passHour_89 rfl (lv_at hl 1 rfl) ?_
  refine x_getI C hw fa_X0_51 ta0 dX0_passHour_90 ?_
  refine lv_imul hx hb dX0_passHour_93 ?_
  refine x_mmin C hl.1 km_X0_86 (by decide) (Nat.le_of_ble_eq_true rfl) (by decide) (Nat.zero_le _) (Nat.zero_le _) dX0_passHour_94 ?_
  refine lv_topi (fun x117 ex117 => ?_)
  have hf := nm_el hf ex117
  refine x_putI C hw fa_X0_27 ta0 dX0_passHour_97 (fun m118 H locs em118 hw => ?_)
  have hf := nm_el hf em118
  refine lv_aload_n hx hb dX0_passHour_100 rfl (lv_at hl 1 rfl) ?_
  refine lv_dup hx hb dX0_passHour_101 rfl ?_
  refine x_getI C hw fa_X0_9 ta0 dX0_passHour_102 ?_
  refine lv_aload_n hx hb dX0_passHour_105 rfl (lv_at hl 1 rfl) ?_
  refine x_getI C hw fa_X0_27 ta0 dX0_passHour_106 ?_
  refine lv_isub hx hb dX0_passHour_109 ?_
  refine x_putI C hw fa_X0_9 ta0 dX0_passHour_110 (fun m119 H locs em119 hw => ?_)
  have hf := nm_el hf em119
  refine lv_aload_n hx hb dX0_passHour_113 rfl (lv_at hl 1 rfl) ?_
  refine lv_dup hx hb dX0_passHour_114 rfl ?_
  refine x_getI C hw fa_X0_33 ta0 dX0_passHour_115 ?_
  refine lv_aload_n hx hb dX0_passHour_118 rfl (lv_at hl 1 rfl) ?_
  refine x_getI C hw fa_X0_18 ta0 dX0_passHour_119 ?_
  refine lv_iadd hx hb dX0_passHour_122 ?_
  refine x_putI C hw fa_X0_33 ta0 dX0_passHour_123 (fun m120 H locs em120 hw => ?_)
  have hf := nm_el hf em120
  refine lv_aload_n hx hb dX0_passHour_126 rfl (lv_at hl 1 rfl) ?_
  refine lv_dup hx hb dX0_passHour_127 rfl ?_
  refine x_getI C hw fa_X0_36 ta0 dX0_passHour_128 ?_
  refine lv_aload_n hx hb dX0_passHour_131 rfl (lv_at hl 1 rfl) ?_
  refine x_getI C hw fa_X0_21 ta0 dX0_passHour_132 ?_
  refine lv_iadd hx hb dX0_passHour_135 ?_
  refine x_putI C hw fa_X0_36 ta0 dX0_passHour_136 (fun m121 H locs em121 hw => ?_)
  have hf := nm_el hf em121
  refine lv_aload_n hx hb dX0_passHour_139 rfl (lv_at hl 1 rfl) ?_
  refine lv_dup hx hb dX0_passHour_140 rfl ?_
  refine x_getI C hw fa_X0_39 ta0 dX0_passHour_141 ?_
  refine lv_aload_n hx hb dX0_passHour_144 rfl (lv_at hl 1 rfl) ?_
  refine x_getI C hw fa_X0_24 ta0 dX0_passHour_145 ?_
  refine lv_iadd hx hb dX0_passHour_148 ?_
  refine x_putI C hw fa_X0_39 ta0 dX0_passHour_149 (fun m122 H locs em122 hw => ?_)
  have hf := nm_el hf em122
  refine lv_aload_n hx hb dX0_passHour_152 rfl (lv_at hl 1 rfl) ?_
  refine lv_dup hx hb dX0_passHour_153 rfl ?_
  refine x_getI C hw fa_X0_42 ta0 dX0_passHour_154 ?_
  refine lv_aload_n hx hb dX0_passHour_157 rfl (lv_at hl 1 rfl) ?_
  refine x_getI C hw fa_X0_27 ta0 dX0_passHour_158 ?_
  refine lv_iadd hx hb dX0_passHour_161 ?_
  refine x_putI C hw fa_X0_42 ta0 dX0_passHour_162 (fun m123 H locs em123 hw => ?_)
  have hf := nm_el hf em123
  exact x_ret C hr hk hw  hf (by decide) (by decide) dX0_passHour_165
set_option maxHeartbeats 4000000 in
set_option maxRecDepth 100000 in
theorem k_X0_take {l : Launch} {D : va_G} {E : Nat → ClassId} {tU : Nat} {τ : Nat → Option XTy} {a0 : Nat} {a1 : Nat} {m0 mE : XMem} (hm : mT m0 = τ) (ta0 : τ a0 = some (.inl 0)) (ta1 : τ a1 = some (.inl 0)) (hf : f_X0_take a0 a1 m0 = some mE) : Ct l yX0_take cX0_take 2 ((Option.none : Option FieldType)) 1 0 0 D E tU [.ref a0, .ref a1] m0 (none) mE (mT mE = mT m0 ∧ True) := by
  subst hm
  refine Ct.of (by decide) (Nat.le_of_ble_eq_true rfl) (fun p e s m below meth c ls C hr hk hnm hl hw => ?_)
  have hx := C.1
  have hb := C.2.1
  have hl : lv_has ls 2 [(0, .ref a0), (1, .ref a1)] := hl
  unfold f_X0_take at hf
  refine lv_aload_n hx hb dX0_take_0 rfl (lv_at hl 0 rfl) ?_
  refine lv_aload_n hx hb dX0_take_1 rfl (lv_at hl 1 rfl) ?_
  refine x_getI C hw fa_X0_45 ta1 dX0_take_2 ?_
  refine x_putI C hw fa_X0_45 ta0 dX0_take_5 (fun m101 H locs em101 hw => ?_)
  have hf := nm_el hf em101
  refine lv_aload_n hx hb dX0_take_8 rfl (lv_at hl 0 rfl) ?_
  refine lv_aload_n hx hb dX0_take_9 rfl (lv_at hl 1 rfl) ?_
  refine x_getI C hw fa_X0_48 ta1 dX0_take_10 ?_
  refine x_putI C hw fa_X0_48 ta0 dX0_take_13 (fun m102 H locs em102 hw => ?_)
  have hf := nm_el hf em102
  refine lv_aload_n hx hb dX0_take_16 rfl (lv_at hl 0 rfl) ?_
  refine lv_aload_n hx hb dX0_take_17 rfl (lv_at hl 1 rfl) ?_
  refine x_getI C hw fa_X0_51 ta1 dX0_take_18 ?_
  refine x_putI C hw fa_X0_51 ta0 dX0_take_21 (fun m103 H locs em103 hw => ?_)
  have hf := nm_el hf em103
  refine lv_aload_n hx hb dX0_take_24 rfl (lv_at hl 0 rfl) ?_
  refine lv_aload_n hx hb dX0_take_25 rfl (lv_at hl 1 rfl) ?_
  refine x_getI C hw fa_X0_54 ta1 dX0_take_26 ?_
  refine x_putI C hw fa_X0_54 ta0 dX0_take_29 (fun m104 H locs em104 hw => ?_)
  have hf := nm_el hf em104
  refine lv_aload_n hx hb dX0_take_32 rfl (lv_at hl 0 rfl) ?_
  refine lv_aload_n hx hb dX0_take_33 rfl (lv_at hl 1 rfl) ?_
  refine x_getI C hw fa_X0_57 ta1 dX0_take_34 ?_
  refine x_putI C hw fa_X0_57 ta0 dX0_take_37 (fun m105 H locs em105 hw => ?_)
  have hf := nm_el hf em105
  refine lv_aload_n hx hb dX0_take_40 rfl (lv_at hl 0 rfl) ?_
  refine lv_aload_n hx hb dX0_take_41 rfl (lv_at hl 1 rfl) ?_
  refine x_getI C hw fa_X0_60 ta1 dX0_take_42 ?_
  refine x_putI C hw fa_X0_60 ta0 dX0_take_45 (fun m106 H locs em106 hw => ?_)
  have hf := nm_el hf em106
  refine lv_aload_n hx hb dX0_take_48 rfl (lv_at hl 0 rfl) ?_
  refine lv_aload_n hx hb dX0_take_49 rfl (lv_at hl 1 rfl) ?_
  refine x_getI C hw fa_X0_9 ta1 dX0_take_50 ?_
  refine x_putI C hw fa_X0_9 ta0 dX0_take_53 (fun m107 H locs em107 hw => ?_)
  have hf := nm_el hf em107
  refine lv_aload_n hx hb dX0_take_56 rfl (lv_at hl 0 rfl) ?_
  refine lv_aload_n hx hb dX0_take_57 rfl (lv_at hl 1 rfl) ?_
  refine x_getI C hw fa_X0_15 ta1 dX0_take_58 ?_
  refine x_putI C hw fa_X0_15 ta0 dX0_take_61 (fun m108 H locs em108 hw => ?_)
  have hf := nm_el hf em108
  refine lv_aload_n hx hb dX0_take_64 rfl (lv_at hl 0 rfl) ?_
  refine lv_aload_n hx hb dX0_take_65 rfl (lv_at hl 1 rfl) ?_
  refine x_getI C hw fa_X0_18 ta1 dX0_take_66 ?_
  refine x_putI C hw fa_X0_18 ta0 dX0_take_69 (fun m109 H locs em109 hw => ?_)
  have hf := nm_el hf em109
  refine lv_aload_n hx hb dX0_take_72 rfl (lv_at hl 0 rfl) ?_
  refine lv_aload_n hx hb dX0_take_73 rfl (lv_at hl 1 rfl) ?_
  refine x_getI C hw fa_X0_21 ta1 dX0_take_74 ?_
  refine x_putI C hw fa_X0_21 ta0 dX0_take_77 (fun m110 H locs em110 hw => ?_)
  have hf := nm_el hf em110
  refine lv_aload_n hx hb dX0_take_80 rfl (lv_at hl 0 rfl) ?_
  refine lv_aload_n hx hb dX0_take_81 rfl (lv_at hl 1 rfl) ?_
  refine x_getI C hw fa_X0_24 ta1 dX0_take_82 ?_
  refine x_putI C hw fa_X0_24 ta0 dX0_take_85 (fun m111 H locs em111 hw => ?_)
  have hf := nm_el hf em111
  refine lv_aload_n hx hb dX0_take_88 rfl (lv_at hl 0 rfl) ?_
  refine lv_aload_n hx hb dX0_take_89 rfl (lv_at hl 1 rfl) ?_
  refine x_getI C hw fa_X0_27 ta1 dX0_take_90 ?_
  refine x_putI C hw fa_X0_27 ta0 dX0_take_93 (fun m112 H locs em112 hw => ?_)
  have hf := nm_el hf em112
  refine lv_aload_n hx hb dX0_take_96 rfl (lv_at hl 0 rfl) ?_
  refine lv_aload_n hx hb dX0_take_97 rfl (lv_at hl 1 rfl) ?_
  refine x_getI C hw fa_X0_30 ta1 dX0_take_98 ?_
  refine x_putI C hw fa_X0_30 ta0 dX0_take_101 (fun m113 H locs em113 hw => ?_)
  have hf := nm_el hf em113
  refine lv_aload_n hx hb dX0_take_104 rfl (lv_at hl 0 rfl) ?_
  refine lv_aload_n hx hb dX0_take_105 rfl (lv_at hl 1 rfl) ?_
  refine x_getI C hw fa_X0_33 ta1 dX0_take_106 ?_
  refine x_putI C hw fa_X0_33 ta0 dX0_take_109 (fun m114 H locs em114 hw => ?_)
  have hf := nm_el hf em114
  refine lv_aload_n hx hb dX0_take_112 rfl (lv_at hl 0 rfl) ?_
  refine lv_aload_n hx hb dX0_take_113 rfl (lv_at hl 1 rfl) ?_
  refine x_getI C hw fa_X0_36 ta1 dX0_take_114 ?_
  refine x_putI C hw fa_X0_36 ta0 dX0_take_117 (fun m115 H locs em115 hw => ?_)
  have hf := nm_el hf em115
  refine lv_aload_n hx hb dX0_take_120 rfl (lv_at hl 0 rfl) ?_
  refine lv_aload_n hx hb dX0_take_121 rfl (lv_at hl 1 rfl) ?_
  refine x_getI C hw fa_X0_39 ta1 dX0_take_122 ?_
  refine x_putI C hw fa_X0_39 ta0 dX0_take_125 (fun m116 H locs em116 hw => ?_)
  have hf := nm_el hf em116
  refine lv_aload_n hx hb dX0_take_128 rfl (lv_at hl 0 rfl) ?_
  refine lv_aload_n hx hb dX0_take_129 rfl (lv_at hl 1 rfl) ?_
  refine x_getI C hw fa_X0_42 ta1 dX0_take_130 ?_
  refine x_putI C hw fa_X0_42 ta0 dX0_take_133 (fun m117 H locs em117 hw => ?_)
  have hf := nm_el hf em117
  exact x_ret C hr hk hw  hf (by decide) (by decide) dX0_take_136
set_option maxHeartbeats 4000000 in
set_option maxRecDepth 100000 in
theorem k_X0_thermometer {l : Launch} {D : va_G} {E : Nat → ClassId} {tU : Nat} {τ : Nat → Option XTy} {a0 : Nat} {m0 mE : XMem} {rE : Int32} (hm : mT m0 = τ) (ta0 : τ a0 = some (.inl 0)) (hf : f_X0_thermometer a0 m0 = some (rE, mE)) : Ct l yX0_thermometer cX0_thermometer 2 ((Option.some FieldType.int)) 2 0 0 D E tU [.ref a0] m0 (some (.int rE)) mE (mT mE = mT m0 ∧ True) := by
  subst hm
  refine Ct.of (by decide) (Nat.le_of_ble_eq_true rfl) (fun p e s m below meth c ls C hr hk hnm hl hw => ?_)
  have hx := C.1
  have hb := C.2.1
  have hl : lv_has ls 2 [(0, .ref a0)] := hl
  unfold f_X0_thermometer at hf
  refine lv_aload_n hx hb dX0_thermometer_0 rfl (lv_at hl 0 rfl) ?_
  obtain ⟨r102, m101, cm101, hf⟩ := b2_el (o := f_X0_warmth a0 m0) hf
  refine x_callVi (As := []) (rest := []) C hl.1 hw cb_X0_63 cv_X0_warmth (k_X0_warmth hw.2.2.2.2 ta0 cm101) ta0 rfl rfl (by decide) ⟨Nat.le_refl _, Nat.le_refl _⟩ rfl (Nat.le_of_ble_eq_true rfl) dX0_thermometer_1 (fun H locs hw tr102 => ?_)
  refine lv_istore_n (lv' := [(1, .int r102), (0, .ref a0)]) hx hb dX0_thermometer_4 rfl hl (by decide) rfl (fun ls hl => ?_)
  refine lv_aload_n hx hb dX0_thermometer_5 rfl (lv_at hl 1 rfl) ?_
  refine x_getI C hw fa_X0_45 ta0 dX0_thermometer_6 ?_
  by_cases c103 : (mI m101 a0 0) = 1
  · have hf := ifp hf c103
    refine lv_tableIn (off := 35) (tgt := 44) hx hb dX0_thermometer_9 (by rw [c103]; decide) (by rw [c103]; decide) (by rw [c103]; try rfl) (by decide) ?_
    refine lv_iload_n hx hb dX0_thermometer_44 rfl (lv_at hl 0 rfl) ?_
    refine lv_iload_n hx hb dX0_thermometer_45 rfl (lv_at hl 0 rfl) ?_
    refine lv_bipush hx hb dX0_thermometer_46 kb_10 ?_
    refine lv_idiv hx hb dX0_thermometer_48 (by decide) ?_
    refine lv_iadd hx hb dX0_thermometer_49 ?_
    exact x_retI C hr hk hw  hf (by decide) (by decide) dX0_thermometer_50
  · have hf := ifn hf c103
    by_cases c104 : (mI m101 a0 0) = 2
    · have hf := ifp hf c104
      refine lv_tableIn (off := 35) (tgt := 44) hx hb dX0_thermometer_9 (by rw [c104]; decide) (by rw [c104]; decide) (by rw [c104]; try rfl) (by decide) ?_
      refine lv_iload_n hx hb dX0_thermometer_44 rfl (lv_at hl 0 rfl) ?_
      refine lv_iload_n hx hb dX0_thermometer_45 rfl (lv_at hl 0 rfl) ?_
      refine lv_bipush hx hb dX0_thermometer_46 kb_10 ?_
      refine lv_idiv hx hb dX0_thermometer_48 (by decide) ?_
      refine lv_iadd hx hb dX0_thermometer_49 ?_
      exact x_retI C hr hk hw  hf (by decide) (by decide) dX0_thermometer_50
    · have hf := ifn hf c104
      by_cases c105 : (mI m101 a0 0) = 3
      · have hf := ifp hf c105
        refine lv_tableIn (off := 57) (tgt := 66) hx hb dX0_thermometer_9 (by rw [c105]; decide) (by rw [c105]; decide) (by rw [c105]; try rfl) (by decide) ?_
        refine lv_iload_n hx hb dX0_thermometer_66 rfl (lv_at hl 0 rfl) ?_
        exact x_retI C hr hk hw  hf (by decide) (by decide) dX0_thermometer_67
      · have hf := ifn hf c105
        by_cases c106 : (mI m101 a0 0) = 4
        · have hf := ifp hf c106
          refine lv_tableIn (off := 51) (tgt := 60) hx hb dX0_thermometer_9 (by rw [c106]; decide) (by rw [c106]; decide) (by rw [c106]; try rfl) (by decide) ?_
          refine lv_iload_n hx hb dX0_thermometer_60 rfl (lv_at hl 0 rfl) ?_
          refine lv_iconst hx hb dX0_thermometer_61 ki_2 ?_
          refine lv_idiv hx hb dX0_thermometer_62 (by decide) ?_
          refine lv_iconst hx hb dX0_thermometer_63 ki_5 ?_
          refine lv_iadd hx hb dX0_thermometer_64 ?_
          exact x_retI C hr hk hw  hf (by decide) (by decide) dX0_thermometer_65
        · have hf := ifn hf c106
          by_cases c107 : (mI m101 a0 0) = 5
          · have hf := ifp hf c107
            refine lv_tableIn (off := 42) (tgt := 51) hx hb dX0_thermometer_9 (by rw [c107]; decide) (by rw [c107]; decide) (by rw [c107]; try rfl) (by decide) ?_
            refine lv_iload_n hx hb dX0_thermometer_51 rfl (lv_at hl 0 rfl) ?_
            refine lv_iload_n hx hb dX0_thermometer_52 rfl (lv_at hl 0 rfl) ?_
            refine lv_bipush hx hb dX0_thermometer_53 kb_10 ?_
            refine lv_idiv hx hb dX0_thermometer_55 (by decide) ?_
            refine lv_iadd hx hb dX0_thermometer_56 ?_
            refine lv_iconst hx hb dX0_thermometer_57 ki_1 ?_
            refine lv_iadd hx hb dX0_thermometer_58 ?_
            exact x_retI C hr hk hw  hf (by decide) (by decide) dX0_thermometer_59
          · have hf := ifn hf c107
            refine lv_tableOut (tgt := 66) hx hb dX0_thermometer_9 (by
                have hc103 := sw_ne (a := 1) c103 (by decide)
                have hc104 := sw_ne (a := 2) c104 (by decide)
                have hc105 := sw_ne (a := 3) c105 (by decide)
                have hc106 := sw_ne (a := 4) c106 (by decide)
                have hc107 := sw_ne (a := 5) c107 (by decide)
                omega) (by decide) ?_
            refine lv_iload_n hx hb dX0_thermometer_66 rfl (lv_at hl 0 rfl) ?_
            exact x_retI C hr hk hw  hf (by decide) (by decide) dX0_thermometer_67
set_option maxHeartbeats 4000000 in
set_option maxRecDepth 100000 in
theorem k_X10_above {l : Launch} {D : va_G} {E : Nat → ClassId} {tU : Nat} {τ : Nat → Option XTy} {x0 : Int32} {m0 mE : XMem} {rE : Int32} (hm : mT m0 = τ)  (hf : f_X10_above x0 m0 = some (rE, mE)) : Ct l yX10_above cX10_above 1 ((Option.some FieldType.int)) 1 0 0 D E tU [.int x0] m0 (some (.int rE)) mE (mT mE = mT m0 ∧ True) := by
  subst hm
  refine Ct.of (by decide) (Nat.le_of_ble_eq_true rfl) (fun p e s m below meth c ls C hr hk hnm hl hw => ?_)
  have hx := C.1
  have hb := C.2.1
  have hl : lv_has ls 1 [(0, .int x0)] := hl
  unfold f_X10_above at hf
  refine lv_iload_n hx hb dX10_above_0 rfl (lv_at hl 0 rfl) ?_
  refine lv_if_ne (tgt := 8) hx hb dX10_above_1 (by decide) (fun c => ?_) (fun c => ?_)
  · have hf := ifn hf c
    refine lv_iload_n hx hb dX10_above_8 rfl (lv_at hl 0 rfl) ?_
    refine lv_iconst hx hb dX10_above_9 ki_2 ?_
    refine lv_icmp_ne (tgt := 17) hx hb dX10_above_10 (by decide) (fun c => ?_) (fun c => ?_)
    · have hf := ifn hf c
      refine lv_iload_n hx hb dX10_above_17 rfl (lv_at hl 0 rfl) ?_
      refine lv_iconst hx hb dX10_above_18 ki_5 ?_
      refine lv_icmp_ne (tgt := 26) hx hb dX10_above_19 (by decide) (fun c => ?_) (fun c => ?_)
      · have hf := ifn hf c
        refine lv_iconst hx hb dX10_above_26 ki_0 ?_
        exact x_retI C hr hk hw  hf (by decide) (by decide) dX10_above_27
      · have hf := ifp hf c
        refine lv_iconst hx hb dX10_above_22 ki_2 ?_
        refine lv_goto (tgt := 27) hx hb dX10_above_23 (by decide) ?_
        exact x_retI C hr hk hw  hf (by decide) (by decide) dX10_above_27
    · have hf := ifp hf c
      refine lv_iconst hx hb dX10_above_13 ki_1 ?_
      refine lv_goto (tgt := 27) hx hb dX10_above_14 (by decide) ?_
      exact x_retI C hr hk hw  hf (by decide) (by decide) dX10_above_27
  · have hf := ifp hf c
    refine lv_iconst hx hb dX10_above_4 ki_m1 ?_
    refine lv_goto (tgt := 27) hx hb dX10_above_5 (by decide) ?_
    exact x_retI C hr hk hw  hf (by decide) (by decide) dX10_above_27
set_option maxHeartbeats 4000000 in
set_option maxRecDepth 100000 in
theorem k_X10_ofCell {l : Launch} {D : va_G} {E : Nat → ClassId} {tU : Nat} {τ : Nat → Option XTy} {a0 : Nat} {x1 : Int32} {x2 : Int32} {m0 mE : XMem} {rE : Int32} (hm : mT m0 = τ) (ta0 : τ a0 = some (.inl 10)) (hf : f_X10_ofCell a0 x1 x2 m0 = some (rE, mE)) : Ct l yX10_ofCell cX10_ofCell 3 ((Option.some FieldType.int)) 1 0 0 D E tU [.ref a0, .int x1, .int x2] m0 (some (.int rE)) mE (mT mE = mT m0 ∧ True) := by
  subst hm
  refine Ct.of (by decide) (Nat.le_of_ble_eq_true rfl) (fun p e s m below meth c ls C hr hk hnm hl hw => ?_)
  have hx := C.1
  have hb := C.2.1
  have hl : lv_has ls 3 [(0, .ref a0), (1, .int x1), (2, .int x2)] := hl
  unfold f_X10_ofCell at hf
  refine lv_aload_n hx hb dX10_ofCell_0 rfl (lv_at hl 0 rfl) ?_
  obtain ⟨b101, eb101, hf⟩ := fo_el hf
  refine x_getR C hw fa_X10_7 (Or.inr ⟨_, rfl⟩) ta0 eb101 dX10_ofCell_1 (fun tb101 => ?_)
  have tb101 : ∃ n, (mT m0) b101 = some (.inr (0, n)) := tb101
  refine lv_bipush hx hb dX10_ofCell_4 kb_11 ?_
  refine lv_bipush hx hb dX10_ofCell_6 kb_17 ?_
  refine lv_iload_n hx hb dX10_ofCell_8 rfl (lv_at hl 1 rfl) ?_
  refine lv_imul hx hb dX10_ofCell_9 ?_
  refine lv_iadd hx hb dX10_ofCell_10 ?_
  refine lv_iload_n hx hb dX10_ofCell_11 rfl (lv_at hl 2 rfl) ?_
  refine lv_iadd hx hb dX10_ofCell_12 ?_
  obtain ⟨g102, hf⟩ := gd_el hf
  refine x_iald C hw tb101 g102 dX10_ofCell_13 ?_
  exact x_retI C hr hk hw  hf (by decide) (by decide) dX10_ofCell_14
set_option maxHeartbeats 4000000 in
set_option maxRecDepth 100000 in
theorem w_X10_saves_h2 {p : Program} {l : Launch} {e : Env} {s : State} {m : MethodId} {args : Array Value} {below : List Frame} {meth : Method} {c : Code} {D : va_G} {E : Nat → ClassId} {tU : Nat} {m0 mE : XMem} (C : Cx p s m args c cX10_saves 3 RX10 D E (Am m0) tU) (hr : meth.sig.returnType = ((Option.none : Option FieldType))) (hk : meth.locks = false) (hnm : meth.name = yX10_saves.name) {a0 : Nat} {x1 : Int32} (ta0 : mT m0 a0 = some (.inl 10)) {k26 :  XMem → Option (XMem)} (hk26 : ∀  (mu : XMem) (H : Heap) (locs : List Loc) (ls : Array Slot), lv_has ls 3 [] → Wd D E (Am m0) s (mT m0) mu H locs →   k26  mu = some mE → W p l e (rmN 2 0 0) s m args below meth c H locs 0 0 (MQ below (XQ D E (Am m0) (none) mE (mT mE = mT m0 ∧ True)) args s 0 0 (Am m0)) (F0 m 26 ls [])) : ∀ (n : Nat) (x2 : Int32) (mu : XMem) (H : Heap) (locs : List Loc) (ls : Array Slot), lv_has ls 3 [(0, .ref a0), (1, .int x1), (2, .int x2)] → Wd D E (Am m0) s (mT m0) mu H locs → f_X10_saves_h2 a0 x1 k26 n x2 mu = some mE → W p l e (rmN 2 0 0) s m args below meth c H locs 0 0 (MQ below (XQ D E (Am m0) (none) mE (mT mE = mT m0 ∧ True)) args s 0 0 (Am m0)) (F0 m 2 ls []) := by
  have hx := C.1
  have hb := C.2.1
  intro n
  induction n with
  | zero =>
    intros
    rename_i hf
    cases hf
  | succ n ih =>
    intro x2 mu H locs ls hl hw hf
    rw [f_X10_saves_h2] at hf
    refine lv_iload_n hx hb dX10_saves_2 rfl (lv_at hl 2 rfl) ?_
    refine lv_bipush hx hb dX10_saves_3 kb_17 ?_
    refine lv_icmp_ge (tgt := 26) hx hb dX10_saves_5 (by decide) (fun c => ?_) (fun c => ?_)
    · have hf := ifp hf c
      exact hk26 _ _ _ _ (lv_sub hl [] rfl) hw hf
    · have hf := ifn hf c
      refine lv_aload_n hx hb dX10_saves_8 rfl (lv_at hl 0 rfl) ?_
      obtain ⟨b102, eb102, hf⟩ := fo_el hf
      refine x_getR C hw fa_X10_43 (Or.inr ⟨_, rfl⟩) ta0 eb102 dX10_saves_9 (fun tb102 => ?_)
      have tb102 : ∃ n, (mT m0) b102 = some (.inr (0, n)) := tb102
      refine lv_iload_n hx hb dX10_saves_12 rfl (lv_at hl 2 rfl) ?_
      refine lv_aload_n hx hb dX10_saves_13 rfl (lv_at hl 0 rfl) ?_
      refine lv_iload_n hx hb dX10_saves_14 rfl (lv_at hl 1 rfl) ?_
      refine lv_iload_n hx hb dX10_saves_15 rfl (lv_at hl 2 rfl) ?_
      obtain ⟨r104, m103, cm103, hf⟩ := b2_el (o := f_X10_ofCell a0 x1 x2 mu) hf
      refine x_callVi (As := [.int x1, .int x2]) (rest := [.int x2, .ref b102]) C hl.1 hw cb_X10_80 cv_X10_ofCell (k_X10_ofCell hw.2.2.2.2 ta0 cm103) ta0 rfl rfl (by decide) ⟨Nat.le_refl _, Nat.le_refl _⟩ rfl (Nat.le_of_ble_eq_true rfl) dX10_saves_16 (fun H locs hw tr104 => ?_)
      obtain ⟨g105, hf⟩ := gd_el hf
      refine x_iast C hw tb102 g105 dX10_saves_19 (fun m106 H locs em106 hw => ?_)
      have hf := nm_el hf em106
      obtain ⟨x107, ex107⟩ : ∃ z : Int32, z = x2 + 1 := ⟨_, rfl⟩
      have hf := nm_el hf ex107
      refine lv_iinc (v := x107) (lv' := [(2, .int x107), (0, .ref a0), (1, .int x1)]) hx hb dX10_saves_20 hl (k := 2) rfl (by rw [ex107, ki_1]) (by decide) rfl (fun ls hl => ?_)
      refine lv_goto (tgt := 2) hx hb dX10_saves_23 (by decide) ?_
      exact ih _ _ _ _ _ (lv_sub hl [1, 2, 0] rfl) hw hf
set_option maxHeartbeats 4000000 in
set_option maxRecDepth 100000 in
theorem k_X10_saves {l : Launch} {D : va_G} {E : Nat → ClassId} {tU : Nat} {τ : Nat → Option XTy} {a0 : Nat} {x1 : Int32} {m0 mE : XMem} (hm : mT m0 = τ) (ta0 : τ a0 = some (.inl 10)) (hf : f_X10_saves a0 x1 m0 = some mE) : Ct l yX10_saves cX10_saves 3 ((Option.none : Option FieldType)) 2 0 0 D E tU [.ref a0, .int x1] m0 (none) mE (mT mE = mT m0 ∧ True) := by
  subst hm
  refine Ct.of (by decide) (Nat.le_of_ble_eq_true rfl) (fun p e s m below meth c ls C hr hk hnm hl hw => ?_)
  have hx := C.1
  have hb := C.2.1
  have hl : lv_has ls 3 [(0, .ref a0), (1, .int x1)] := hl
  unfold f_X10_saves at hf
  refine lv_iconst hx hb dX10_saves_0 ki_0 ?_
  refine lv_istore_n (lv' := [(2, .int 0), (0, .ref a0), (1, .int x1)]) hx hb dX10_saves_1 rfl hl (by decide) rfl (fun ls hl => ?_)
  refine w_X10_saves_h2 C hr hk hnm ta0 ?_ 2000 _ _ _ _ _ (lv_sub hl [1, 2, 0] rfl) hw hf
  intro m101 H locs ls hl hw hf
  exact x_ret C hr hk hw  hf (by decide) (by decide) dX10_saves_26
set_option maxHeartbeats 4000000 in
set_option maxRecDepth 100000 in
theorem k_X10_powerNow {l : Launch} {D : va_G} {E : Nat → ClassId} {tU : Nat} {τ : Nat → Option XTy} {a0 : Nat} {x1 : Int32} {m0 mE : XMem} {rE : Int32} (hm : mT m0 = τ) (ta0 : τ a0 = some (.inl 10)) (hf : f_X10_powerNow a0 x1 m0 = some (rE, mE)) : Ct l yX10_powerNow cX10_powerNow 2 ((Option.some FieldType.int)) 2 0 0 D E tU [.ref a0, .int x1] m0 (some (.int rE)) mE (mT mE = mT m0 ∧ True) := by
  subst hm
  refine Ct.of (by decide) (Nat.le_of_ble_eq_true rfl) (fun p e s m below meth c ls C hr hk hnm hl hw => ?_)
  have hx := C.1
  have hb := C.2.1
  have hl : lv_has ls 2 [(0, .ref a0), (1, .int x1)] := hl
  unfold f_X10_powerNow at hf
  refine lv_aload_n hx hb dX10_powerNow_0 rfl (lv_at hl 0 rfl) ?_
  refine lv_iload_n hx hb dX10_powerNow_1 rfl (lv_at hl 1 rfl) ?_
  refine lv_iconst hx hb dX10_powerNow_2 ki_5 ?_
  obtain ⟨r102, m101, cm101, hf⟩ := b2_el (o := f_X10_ofCell a0 x1 5 m0) hf
  refine x_callVi (As := [.int x1, .int 5]) (rest := []) C hl.1 hw cb_X10_80 cv_X10_ofCell (k_X10_ofCell hw.2.2.2.2 ta0 cm101) ta0 rfl rfl (by decide) ⟨Nat.le_refl _, Nat.le_refl _⟩ rfl (Nat.le_of_ble_eq_true rfl) dX10_powerNow_3 (fun H locs hw tr102 => ?_)
  refine lv_if_ne (tgt := 13) hx hb dX10_powerNow_6 (by decide) (fun c => ?_) (fun c => ?_)
  · have hf := ifn hf c
    refine lv_aload_n hx hb dX10_powerNow_13 rfl (lv_at hl 0 rfl) ?_
    refine lv_iload_n hx hb dX10_powerNow_14 rfl (lv_at hl 1 rfl) ?_
    refine lv_iconst hx hb dX10_powerNow_15 ki_1 ?_
    obtain ⟨r104, m103, cm103, hf⟩ := b2_el (o := f_X10_ofCell a0 x1 1 m101) hf
    refine x_callVi (As := [.int x1, .int 1]) (rest := []) C hl.1 hw cb_X10_80 cv_X10_ofCell (k_X10_ofCell hw.2.2.2.2 ta0 cm103) ta0 rfl rfl (by decide) ⟨Nat.le_refl _, Nat.le_refl _⟩ rfl (Nat.le_of_ble_eq_true rfl) dX10_powerNow_16 (fun H locs hw tr104 => ?_)
    exact x_retI C hr hk hw  hf (by decide) (by decide) dX10_powerNow_19
  · have hf := ifp hf c
    refine lv_iconst hx hb dX10_powerNow_9 ki_0 ?_
    refine lv_goto (tgt := 19) hx hb dX10_powerNow_10 (by decide) ?_
    exact x_retI C hr hk hw  hf (by decide) (by decide) dX10_powerNow_19
set_option maxHeartbeats 4000000 in
set_option maxRecDepth 100000 in
theorem k_X10_warmth {l : Launch} {D : va_G} {E : Nat → ClassId} {tU : Nat} {τ : Nat → Option XTy} {a0 : Nat} {x1 : Int32} {m0 mE : XMem} {rE : Int32} (hm : mT m0 = τ) (ta0 : τ a0 = some (.inl 10)) (hf : f_X10_warmth a0 x1 m0 = some (rE, mE)) : Ct l yX10_warmth cX10_warmth 2 ((Option.some FieldType.int)) 2 0 0 D E tU [.ref a0, .int x1] m0 (some (.int rE)) mE (mT mE = mT m0 ∧ True) := by
  subst hm
  refine Ct.of (by decide) (Nat.le_of_ble_eq_true rfl) (fun p e s m below meth c ls C hr hk hnm hl hw => ?_)
  have hx := C.1
  have hb := C.2.1
  have hl : lv_has ls 2 [(0, .ref a0), (1, .int x1)] := hl
  unfold f_X10_warmth at hf
  refine lv_aload_n hx hb dX10_warmth_0 rfl (lv_at hl 0 rfl) ?_
  refine lv_iload_n hx hb dX10_warmth_1 rfl (lv_at hl 1 rfl) ?_
  refine lv_bipush hx hb dX10_warmth_2 kb_6 ?_
  obtain ⟨r102, m101, cm101, hf⟩ := b2_el (o := f_X10_ofCell a0 x1 6 m0) hf
  refine x_callVi (As := [.int x1, .int 6]) (rest := []) C hl.1 hw cb_X10_80 cv_X10_ofCell (k_X10_ofCell hw.2.2.2.2 ta0 cm101) ta0 rfl rfl (by decide) ⟨Nat.le_refl _, Nat.le_refl _⟩ rfl (Nat.le_of_ble_eq_true rfl) dX10_warmth_4 (fun H locs hw tr102 => ?_)
  refine lv_aload_n hx hb dX10_warmth_7 rfl (lv_at hl 0 rfl) ?_
  refine lv_iload_n hx hb dX10_warmth_8 rfl (lv_at hl 1 rfl) ?_
  refine lv_iconst hx hb dX10_warmth_9 ki_3 ?_
  obtain ⟨r104, m103, cm103, hf⟩ := b2_el (o := f_X10_ofCell a0 x1 3 m101) hf
  refine x_callVi (As := [.int x1, .int 3]) (rest := [.int r102]) C hl.1 hw cb_X10_80 cv_X10_ofCell (k_X10_ofCell hw.2.2.2.2 ta0 cm103) ta0 rfl rfl (by decide) ⟨Nat.le_refl _, Nat.le_refl _⟩ rfl (Nat.le_of_ble_eq_true rfl) dX10_warmth_10 (fun H locs hw tr104 => ?_)
  obtain ⟨g105, hf⟩ := gd_el hf
  refine lv_idiv hx hb dX10_warmth_13 (nz_ne g105) ?_
  exact x_retI C hr hk hw  hf (by decide) (by decide) dX10_warmth_14
set_option maxHeartbeats 4000000 in
set_option maxRecDepth 100000 in
theorem k_X10_readOf {l : Launch} {D : va_G} {E : Nat → ClassId} {tU : Nat} {τ : Nat → Option XTy} {a0 : Nat} {x1 : Int32} {m0 mE : XMem} {rE : Int32} (hm : mT m0 = τ) (ta0 : τ a0 = some (.inl 10)) (hf : f_X10_readOf a0 x1 m0 = some (rE, mE)) : Ct l yX10_readOf cX10_readOf 3 ((Option.some FieldType.int)) 3 0 0 D E tU [.ref a0, .int x1] m0 (some (.int rE)) mE (mT mE = mT m0 ∧ True) := by
  subst hm
  refine Ct.of (by decide) (Nat.le_of_ble_eq_true rfl) (fun p e s m below meth c ls C hr hk hnm hl hw => ?_)
  have hx := C.1
  have hb := C.2.1
  have hl : lv_has ls 3 [(0, .ref a0), (1, .int x1)] := hl
  unfold f_X10_readOf at hf
  refine lv_aload_n hx hb dX10_readOf_0 rfl (lv_at hl 0 rfl) ?_
  refine lv_iload_n hx hb dX10_readOf_1 rfl (lv_at hl 1 rfl) ?_
  obtain ⟨r102, m101, cm101, hf⟩ := b2_el (o := f_X10_warmth a0 x1 m0) hf
  refine x_callVi (As := [.int x1]) (rest := []) C hl.1 hw cb_X10_84 cv_X10_warmth (k_X10_warmth hw.2.2.2.2 ta0 cm101) ta0 rfl rfl (by decide) ⟨Nat.le_refl _, Nat.le_refl _⟩ rfl (Nat.le_of_ble_eq_true rfl) dX10_readOf_2 (fun H locs hw tr102 => ?_)
  refine lv_istore_n (lv' := [(2, .int r102), (0, .ref a0), (1, .int x1)]) hx hb dX10_readOf_5 rfl hl (by decide) rfl (fun ls hl => ?_)
  refine lv_aload_n hx hb dX10_readOf_6 rfl (lv_at hl 1 rfl) ?_
  refine lv_iload_n hx hb dX10_readOf_7 rfl (lv_at hl 2 rfl) ?_
  refine lv_iconst hx hb dX10_readOf_8 ki_0 ?_
  obtain ⟨r104, m103, cm103, hf⟩ := b2_el (o := f_X10_ofCell a0 x1 0 m101) hf
  refine x_callVi (As := [.int x1, .int 0]) (rest := []) C hl.1 hw cb_X10_80 cv_X10_ofCell (k_X10_ofCell hw.2.2.2.2 ta0 cm103) ta0 rfl rfl (by decide) ⟨Nat.le_refl _, Nat.le_refl _⟩ rfl (Nat.le_of_ble_eq_true rfl) dX10_readOf_9 (fun H locs hw tr104 => ?_)
  by_cases c105 : r104 = 1
  · have hf := ifp hf c105
    refine lv_tableIn (off := 36) (tgt := 48) hx hb dX10_readOf_12 (by rw [c105]; decide) (by rw [c105]; decide) (by rw [c105]; try rfl) (by decide) ?_
    refine lv_iload_n hx hb dX10_readOf_48 rfl (lv_at hl 0 rfl) ?_
    refine lv_iload_n hx hb dX10_readOf_49 rfl (lv_at hl 0 rfl) ?_
    refine lv_bipush hx hb dX10_readOf_50 kb_10 ?_
    refine lv_idiv hx hb dX10_readOf_52 (by decide) ?_
    refine lv_iadd hx hb dX10_readOf_53 ?_
    exact x_retI C hr hk hw  hf (by decide) (by decide) dX10_readOf_54
  · have hf := ifn hf c105
    by_cases c106 : r104 = 2
    · have hf := ifp hf c106
      refine lv_tableIn (off := 36) (tgt := 48) hx hb dX10_readOf_12 (by rw [c106]; decide) (by rw [c106]; decide) (by rw [c106]; try rfl) (by decide) ?_
      refine lv_iload_n hx hb dX10_readOf_48 rfl (lv_at hl 0 rfl) ?_
      refine lv_iload_n hx hb dX10_readOf_49 rfl (lv_at hl 0 rfl) ?_
      refine lv_bipush hx hb dX10_readOf_50 kb_10 ?_
      refine lv_idiv hx hb dX10_readOf_52 (by decide) ?_
      refine lv_iadd hx hb dX10_readOf_53 ?_
      exact x_retI C hr hk hw  hf (by decide) (by decide) dX10_readOf_54
    · have hf := ifn hf c106
      by_cases c107 : r104 = 3
      · have hf := ifp hf c107
        refine lv_tableIn (off := 58) (tgt := 70) hx hb dX10_readOf_12 (by rw [c107]; decide) (by rw [c107]; decide) (by rw [c107]; try rfl) (by decide) ?_
        refine lv_iload_n hx hb dX10_readOf_70 rfl (lv_at hl 0 rfl) ?_
        exact x_retI C hr hk hw  hf (by decide) (by decide) dX10_readOf_71
      · have hf := ifn hf c107
        by_cases c108 : r104 = 4
        · have hf := ifp hf c108
          refine lv_tableIn (off := 43) (tgt := 55) hx hb dX10_readOf_12 (by rw [c108]; decide) (by rw [c108]; decide) (by rw [c108]; try rfl) (by decide) ?_
          refine lv_iload_n hx hb dX10_readOf_55 rfl (lv_at hl 0 rfl) ?_
          refine lv_iconst hx hb dX10_readOf_56 ki_2 ?_
          refine lv_idiv hx hb dX10_readOf_57 (by decide) ?_
          refine lv_iconst hx hb dX10_readOf_58 ki_5 ?_
          refine lv_iadd hx hb dX10_readOf_59 ?_
          exact x_retI C hr hk hw  hf (by decide) (by decide) dX10_readOf_60
        · have hf := ifn hf c108
          by_cases c109 : r104 = 5
          · have hf := ifp hf c109
            refine lv_tableIn (off := 49) (tgt := 61) hx hb dX10_readOf_12 (by rw [c109]; decide) (by rw [c109]; decide) (by rw [c109]; try rfl) (by decide) ?_
            refine lv_iload_n hx hb dX10_readOf_61 rfl (lv_at hl 0 rfl) ?_
            refine lv_iload_n hx hb dX10_readOf_62 rfl (lv_at hl 0 rfl) ?_
            refine lv_bipush hx hb dX10_readOf_63 kb_10 ?_
            refine lv_idiv hx hb dX10_readOf_65 (by decide) ?_
            refine lv_iadd hx hb dX10_readOf_66 ?_
            refine lv_iconst hx hb dX10_readOf_67 ki_1 ?_
            refine lv_iadd hx hb dX10_readOf_68 ?_
            exact x_retI C hr hk hw  hf (by decide) (by decide) dX10_readOf_69
          · have hf := ifn hf c109
            refine lv_tableOut (tgt := 70) hx hb dX10_readOf_12 (by
                have hc105 := sw_ne (a := 1) c105 (by decide)
                have hc106 := sw_ne (a := 2) c106 (by decide)
                have hc107 := sw_ne (a := 3) c107 (by decide)
                have hc108 := sw_ne (a := 4) c108 (by decide)
                have hc109 := sw_ne (a := 5) c109 (by decide)
                omega) (by decide) ?_
            refine lv_iload_n hx hb dX10_readOf_70 rfl (lv_at hl 0 rfl) ?_
            exact x_retI C hr hk hw  hf (by decide) (by decide) dX10_readOf_71
set_option maxHeartbeats 4000000 in
set_option maxRecDepth 100000 in
theorem k_X10_named {l : Launch} {D : va_G} {E : Nat → ClassId} {tU : Nat} {τ : Nat → Option XTy} {a0 : Nat} {x1 : Int32} {x2 : Int32} {x3 : Int32} {x4 : Int32} {m0 mE : XMem} {rE : Int32} (hm : mT m0 = τ) (ta0 : τ a0 = some (.inl 10)) (hf : f_X10_named a0 x1 x2 x3 x4 m0 = some (rE, mE)) : Ct l yX10_named cX10_named 5 ((Option.some FieldType.int)) 4 0 0 D E tU [.ref a0, .int x1, .int x2, .int x3, .int x4] m0 (some (.int rE)) mE (mT mE = mT m0 ∧ True) := by
  subst hm
  refine Ct.of (by decide) (Nat.le_of_ble_eq_true rfl) (fun p e s m below meth c ls C hr hk hnm hl hw => ?_)
  have hx := C.1
  have hb := C.2.1
  have hl : lv_has ls 5 [(0, .ref a0), (1, .int x1), (2, .int x2), (3, .int x3), (4, .int x4)] := hl
  unfold f_X10_named at hf
  refine lv_iload_n hx hb dX10_named_0 rfl (lv_at hl 1 rfl) ?_
  by_cases c101 : x1 = 0
  · have hf := ifp hf c101
    refine lv_tableIn (off := 31) (tgt := 32) hx hb dX10_named_1 (by rw [c101]; decide) (by rw [c101]; decide) (by rw [c101]; try rfl) (by decide) ?_
    refine lv_aload_n hx hb dX10_named_32 rfl (lv_at hl 0 rfl) ?_
    refine lv_iload_n hx hb dX10_named_33 rfl (lv_at hl 3 rfl) ?_
    obtain ⟨r103, m102, cm102, hf⟩ := b2_el (o := f_X10_powerNow a0 x3 m0) hf
    refine x_callVi (As := [.int x3]) (rest := []) C hl.1 hw cb_X10_94 cv_X10_powerNow (k_X10_powerNow hw.2.2.2.2 ta0 cm102) ta0 rfl rfl (by decide) ⟨Nat.le_refl _, Nat.le_refl _⟩ rfl (Nat.le_of_ble_eq_true rfl) dX10_named_34 (fun H locs hw tr103 => ?_)
    exact x_retI C hr hk hw  hf (by decide) (by decide) dX10_named_37
  · have hf := ifn hf c101
    by_cases c104 : x1 = 1
    · have hf := ifp hf c104
      refine lv_tableIn (off := 37) (tgt := 38) hx hb dX10_named_1 (by rw [c104]; decide) (by rw [c104]; decide) (by rw [c104]; try rfl) (by decide) ?_
      refine lv_iload_n hx hb dX10_named_38 rfl (lv_at hl 2 rfl) ?_
      refine lv_bipush hx hb dX10_named_39 kb_7 ?_
      refine lv_icmp_ne (tgt := 52) hx hb dX10_named_41 (by decide) (fun c => ?_) (fun c => ?_)
      · have hf := ifn hf c
        refine lv_aload_n hx hb dX10_named_52 rfl (lv_at hl 0 rfl) ?_
        refine lv_iload_n hx hb dX10_named_53 rfl (lv_at hl 3 rfl) ?_
        obtain ⟨r106, m105, cm105, hf⟩ := b2_el (o := f_X10_warmth a0 x3 m0) hf
        refine x_callVi (As := [.int x3]) (rest := []) C hl.1 hw cb_X10_84 cv_X10_warmth (k_X10_warmth hw.2.2.2.2 ta0 cm105) ta0 rfl rfl (by decide) ⟨Nat.le_refl _, Nat.le_refl _⟩ rfl (Nat.le_of_ble_eq_true rfl) dX10_named_54 (fun H locs hw tr106 => ?_)
        exact x_retI C hr hk hw  hf (by decide) (by decide) dX10_named_57
      · have hf := ifp hf c
        refine lv_aload_n hx hb dX10_named_44 rfl (lv_at hl 0 rfl) ?_
        refine lv_iload_n hx hb dX10_named_45 rfl (lv_at hl 3 rfl) ?_
        obtain ⟨r108, m107, cm107, hf⟩ := b2_el (o := f_X10_readOf a0 x3 m0) hf
        refine x_callVi (As := [.int x3]) (rest := []) C hl.1 hw cb_X10_115 cv_X10_readOf (k_X10_readOf hw.2.2.2.2 ta0 cm107) ta0 rfl rfl (by decide) ⟨Nat.le_refl _, Nat.le_refl _⟩ rfl (Nat.le_of_ble_eq_true rfl) dX10_named_46 (fun H locs hw tr108 => ?_)
        refine lv_goto (tgt := 57) hx hb dX10_named_49 (by decide) ?_
        exact x_retI C hr hk hw  hf (by decide) (by decide) dX10_named_57
    · have hf := ifn hf c104
      by_cases c109 : x1 = 2
      · have hf := ifp hf c109
        refine lv_tableIn (off := 57) (tgt := 58) hx hb dX10_named_1 (by rw [c109]; decide) (by rw [c109]; decide) (by rw [c109]; try rfl) (by decide) ?_
        refine lv_iload hx hb dX10_named_58 (lv_at hl 4 rfl) ?_
        exact x_retI C hr hk hw  hf (by decide) (by decide) dX10_named_60
      · have hf := ifn hf c109
        by_cases c110 : x1 = 3
        · have hf := ifp hf c110
          refine lv_tableIn (off := 60) (tgt := 61) hx hb dX10_named_1 (by rw [c110]; decide) (by rw [c110]; decide) (by rw [c110]; try rfl) (by decide) ?_
          refine lv_iload_n hx hb dX10_named_61 rfl (lv_at hl 3 rfl) ?_
          exact x_retI C hr hk hw  hf (by decide) (by decide) dX10_named_62
        · have hf := ifn hf c110
          refine lv_tableOut (tgt := 63) hx hb dX10_named_1 (by
              have hc101 := sw_ne (a := 0) c101 (by decide)
              have hc104 := sw_ne (a := 1) c104 (by decide)
              have hc109 := sw_ne (a := 2) c109 (by decide)
              have hc110 := sw_ne (a := 3) c110 (by decide)
              omega) (by decide) ?_
          refine lv_aload_n hx hb dX10_named_63 rfl (lv_at hl 0 rfl) ?_
          refine lv_iload_n hx hb dX10_named_64 rfl (lv_at hl 3 rfl) ?_
          refine lv_iconst hx hb dX10_named_65 ki_5 ?_
          obtain ⟨r112, m111, cm111, hf⟩ := b2_el (o := f_X10_ofCell a0 x3 5 m0) hf
          refine x_callVi (As := [.int x3, .int 5]) (rest := []) C hl.1 hw cb_X10_80 cv_X10_ofCell (k_X10_ofCell hw.2.2.2.2 ta0 cm111) ta0 rfl rfl (by decide) ⟨Nat.le_refl _, Nat.le_refl _⟩ rfl (Nat.le_of_ble_eq_true rfl) dX10_named_66 (fun H locs hw tr112 => ?_)
          exact x_retI C hr hk hw  hf (by decide) (by decide) dX10_named_69
set_option maxHeartbeats 4000000 in
set_option maxRecDepth 100000 in
theorem k_X10_both {l : Launch} {D : va_G} {E : Nat → ClassId} {tU : Nat} {τ : Nat → Option XTy} {x0 : Int32} {x1 : Int32} {x2 : Int32} {m0 mE : XMem} {rE : Int32} (hm : mT m0 = τ)  (hf : f_X10_both x0 x1 x2 m0 = some (rE, mE)) : Ct l yX10_both cX10_both 3 ((Option.some FieldType.int)) 1 0 0 D E tU [.int x0, .int x1, .int x2] m0 (some (.int rE)) mE (mT mE = mT m0 ∧ True) := by
  subst hm
  refine Ct.of (by decide) (Nat.le_of_ble_eq_true rfl) (fun p e s m below meth c ls C hr hk hnm hl hw => ?_)
  have hx := C.1
  have hb := C.2.1
  have hl : lv_has ls 3 [(0, .int x0), (1, .int x1), (2, .int x2)] := hl
  unfold f_X10_both at hf
  refine lv_iload_n hx hb dX10_both_0 rfl (lv_at hl 0 rfl) ?_
  by_cases c101 : x0 = 10100
  · have hf := ifp hf c101
    refine lv_tableIn (off := 35) (tgt := 36) hx hb dX10_both_1 (by rw [c101]; decide) (by rw [c101]; decide) (by rw [c101]; try rfl) (by decide) ?_
    refine lv_iload_n hx hb dX10_both_36 rfl (lv_at hl 1 rfl) ?_
    refine lv_iload_n hx hb dX10_both_37 rfl (lv_at hl 2 rfl) ?_
    refine lv_iadd hx hb dX10_both_38 ?_
    exact x_retI C hr hk hw  hf (by decide) (by decide) dX10_both_39
  · have hf := ifn hf c101
    by_cases c102 : x0 = 10101
    · have hf := ifp hf c102
      refine lv_tableIn (off := 39) (tgt := 40) hx hb dX10_both_1 (by rw [c102]; decide) (by rw [c102]; decide) (by rw [c102]; try rfl) (by decide) ?_
      refine lv_iload_n hx hb dX10_both_40 rfl (lv_at hl 1 rfl) ?_
      refine lv_iload_n hx hb dX10_both_41 rfl (lv_at hl 2 rfl) ?_
      refine lv_isub hx hb dX10_both_42 ?_
      exact x_retI C hr hk hw  hf (by decide) (by decide) dX10_both_43
    · have hf := ifn hf c102
      by_cases c103 : x0 = 10102
      · have hf := ifp hf c103
        refine lv_tableIn (off := 43) (tgt := 44) hx hb dX10_both_1 (by rw [c103]; decide) (by rw [c103]; decide) (by rw [c103]; try rfl) (by decide) ?_
        refine lv_iload_n hx hb dX10_both_44 rfl (lv_at hl 1 rfl) ?_
        refine lv_iload_n hx hb dX10_both_45 rfl (lv_at hl 2 rfl) ?_
        refine lv_imul hx hb dX10_both_46 ?_
        exact x_retI C hr hk hw  hf (by decide) (by decide) dX10_both_47
      · have hf := ifn hf c103
        by_cases c104 : x0 = 10103
        · have hf := ifp hf c104
          refine lv_tableIn (off := 47) (tgt := 48) hx hb dX10_both_1 (by rw [c104]; decide) (by rw [c104]; decide) (by rw [c104]; try rfl) (by decide) ?_
          refine lv_iload_n hx hb dX10_both_48 rfl (lv_at hl 2 rfl) ?_
          refine lv_if_ne (tgt := 56) hx hb dX10_both_49 (by decide) (fun c => ?_) (fun c => ?_)
          · have hf := ifn hf c
            refine lv_iload_n hx hb dX10_both_56 rfl (lv_at hl 1 rfl) ?_
            refine lv_iload_n hx hb dX10_both_57 rfl (lv_at hl 2 rfl) ?_
            obtain ⟨g105, hf⟩ := gd_el hf
            refine lv_idiv hx hb dX10_both_58 (nz_ne g105) ?_
            exact x_retI C hr hk hw  hf (by decide) (by decide) dX10_both_59
          · have hf := ifp hf c
            refine lv_iconst hx hb dX10_both_52 ki_0 ?_
            refine lv_goto (tgt := 59) hx hb dX10_both_53 (by decide) ?_
            exact x_retI C hr hk hw  hf (by decide) (by decide) dX10_both_59
        · have hf := ifn hf c104
          by_cases c106 : x0 = 10104
          · have hf := ifp hf c106
            refine lv_tableIn (off := 59) (tgt := 60) hx hb dX10_both_1 (by rw [c106]; decide) (by rw [c106]; decide) (by rw [c106]; try rfl) (by decide) ?_
            refine lv_iload_n hx hb dX10_both_60 rfl (lv_at hl 1 rfl) ?_
            refine lv_iload_n hx hb dX10_both_61 rfl (lv_at hl 2 rfl) ?_
            refine lv_icmp_ge (tgt := 69) hx hb dX10_both_62 (by decide) (fun c => ?_) (fun c => ?_)
            · have hf := ifp hf c
              refine lv_iload_n hx hb dX10_both_69 rfl (lv_at hl 2 rfl) ?_
              exact x_retI C hr hk hw  hf (by decide) (by decide) dX10_both_70
            · have hf := ifn hf c
              refine lv_iload_n hx hb dX10_both_65 rfl (lv_at hl 1 rfl) ?_
              refine lv_goto (tgt := 70) hx hb dX10_both_66 (by decide) ?_
              exact x_retI C hr hk hw  hf (by decide) (by decide) dX10_both_70
          · have hf := ifn hf c106
            refine lv_tableOut (tgt := 71) hx hb dX10_both_1 (by
                have hc101 := sw_ne (a := 10100) c101 (by decide)
                have hc102 := sw_ne (a := 10101) c102 (by decide)
                have hc103 := sw_ne (a := 10102) c103 (by decide)
                have hc104 := sw_ne (a := 10103) c104 (by decide)
                have hc106 := sw_ne (a := 10104) c106 (by decide)
                omega) (by decide) ?_
            refine lv_iload_n hx hb dX10_both_71 rfl (lv_at hl 1 rfl) ?_
            refine lv_iload_n hx hb dX10_both_72 rfl (lv_at hl 2 rfl) ?_
            refine lv_icmp_le (tgt := 80) hx hb dX10_both_73 (by decide) (fun c => ?_) (fun c => ?_)
            · have hf := ifp hf c
              refine lv_iload_n hx hb dX10_both_80 rfl (lv_at hl 2 rfl) ?_
              exact x_retI C hr hk hw  hf (by decide) (by decide) dX10_both_81
            · have hf := ifn hf c
              refine lv_iload_n hx hb dX10_both_76 rfl (lv_at hl 1 rfl) ?_
              refine lv_goto (tgt := 81) hx hb dX10_both_77 (by decide) ?_
              exact x_retI C hr hk hw  hf (by decide) (by decide) dX10_both_81
set_option maxHeartbeats 4000000 in
set_option maxRecDepth 100000 in
theorem w_X10_worked_h16 {p : Program} {l : Launch} {e : Env} {s : State} {m : MethodId} {args : Array Value} {below : List Frame} {meth : Method} {c : Code} {D : va_G} {E : Nat → ClassId} {tU : Nat} {m0 mE : XMem} {rE : Int32} (C : Cx p s m args c cX10_worked 8 RX10 D E (Am m0) tU) (hr : meth.sig.returnType = ((Option.some FieldType.int))) (hk : meth.locks = false) (hnm : meth.name = yX10_worked.name) {a0 : Nat} {x1 : Int32} {x2 : Int32} {x3 : Int32} {x4 : Int32} (ta0 : mT m0 a0 = some (.inl 10)) {k180 :  XMem → Option (Int32 × XMem)} (hk180 : ∀  (mu : XMem) (H : Heap) (locs : List Loc) (ls : Array Slot), lv_has ls 8 [(0, .ref a0), (1, .int x1), (4, .int x4)] → Wd D E (Am m0) s (mT m0) mu H locs →   k180  mu = some (rE, mE) → W p l e (rmN 5 0 0) s m args below meth c H locs 0 0 (MQ below (XQ D E (Am m0) (some (.int rE)) mE (mT mE = mT m0 ∧ True)) args s 0 0 (Am m0)) (F0 m 180 ls [])) : ∀ (n : Nat) (x5 : Int32) (x6 : Int32) (mu : XMem) (H : Heap) (locs : List Loc) (ls : Array Slot), lv_has ls 8 [(0, .ref a0), (1, .int x1), (2, .int x2), (3, .int x3), (4, .int x4), (5, .int x5), (6, .int x6)] → Wd D E (Am m0) s (mT m0) mu H locs → f_X10_worked_h16 a0 x1 x2 x3 x4 k180 n x5 x6 mu = some (rE, mE) → W p l e (rmN 5 0 0) s m args below meth c H locs 0 0 (MQ below (XQ D E (Am m0) (some (.int rE)) mE (mT mE = mT m0 ∧ True)) args s 0 0 (Am m0)) (F0 m 16 ls []) := by
  have hx := C.1
  have hb := C.2.1
  intro n
  induction n with
  | zero =>
    intros
    rename_i hf
    cases hf
  | succ n ih =>
    intro x5 x6 mu H locs ls hl hw hf
    rw [f_X10_worked_h16] at hf
    refine lv_iload hx hb dX10_worked_16 (lv_at hl 6 rfl) ?_
    refine lv_aload_n hx hb dX10_worked_18 rfl (lv_at hl 0 rfl) ?_
    obtain ⟨b107, eb107, hf⟩ := fo_el hf
    refine x_getR C hw fa_X10_7 (Or.inr ⟨_, rfl⟩) ta0 eb107 dX10_worked_19 (fun tb107 => ?_)
    have tb107 : ∃ n, (mT m0) b107 = some (.inr (0, n)) := tb107
    refine lv_iload hx hb dX10_worked_22 (lv_at hl 4 rfl) ?_
    obtain ⟨g108, hf⟩ := gd_el hf
    refine x_iald C hw tb107 g108 dX10_worked_24 ?_
    refine lv_icmp_gt (tgt := 180) hx hb dX10_worked_25 (by decide) (fun c => ?_) (fun c => ?_)
    · have hf := ifp hf c
      exact hk180 _ _ _ _ (lv_sub hl [0, 1, 4] rfl) hw hf
    · have hf := ifn hf c
      refine lv_aload_n hx hb dX10_worked_28 rfl (lv_at hl 0 rfl) ?_
      obtain ⟨b109, eb109, hf⟩ := fo_el hf
      refine x_getR C hw fa_X10_7 (Or.inr ⟨_, rfl⟩) ta0 eb109 dX10_worked_29 (fun tb109 => ?_)
      have tb109 : ∃ n, (mT m0) b109 = some (.inr (0, n)) := tb109
      refine lv_iload hx hb dX10_worked_32 (lv_at hl 4 rfl) ?_
      refine lv_iload hx hb dX10_worked_34 (lv_at hl 6 rfl) ?_
      refine lv_iadd hx hb dX10_worked_36 ?_
      obtain ⟨g110, hf⟩ := gd_el hf
      refine x_iald C hw tb109 g110 dX10_worked_37 ?_
      refine lv_topi (fun x111 ex111 => ?_)
      have hf := nm_el hf ex111
      refine lv_istore (lv' := [(7, .int x111), (0, .ref a0), (1, .int x1), (2, .int x2), (3, .int x3), (4, .int x4), (5, .int x5), (6, .int x6)]) hx hb dX10_worked_38 hl (by decide) rfl (fun ls hl => ?_)
      refine lv_iload hx hb dX10_worked_40 (lv_at hl 0 rfl) ?_
      refine lv_sipush hx hb dX10_worked_42 ks_10100 ?_
      refine lv_icmp_ge (tgt := 87) hx hb dX10_worked_45 (by decide) (fun c => ?_) (fun c => ?_)
      · have hf := ifp hf c
        refine lv_iload hx hb dX10_worked_87 (lv_at hl 0 rfl) ?_
        refine lv_sipush hx hb dX10_worked_89 ks_10106 ?_
        refine lv_icmp_ne (tgt := 141) hx hb dX10_worked_92 (by decide) (fun c => ?_) (fun c => ?_)
        · have hf := ifn hf c
          obtain ⟨x112, ex112⟩ : ∃ z : Int32, z = x5 + (-1) := ⟨_, rfl⟩
          have hf := nm_el hf ex112
          refine lv_iinc (v := x112) (lv' := [(5, .int x112), (7, .int x111), (0, .ref a0), (1, .int x1), (2, .int x2), (3, .int x3), (4, .int x4), (6, .int x6)]) hx hb dX10_worked_141 hl (k := 6) rfl (by rw [ex112, ki_m1]) (by decide) rfl (fun ls hl => ?_)
          refine lv_aload_n hx hb dX10_worked_144 rfl (lv_at hl 2 rfl) ?_
          obtain ⟨b113, eb113, hf⟩ := fo_el hf
          refine x_getR C hw fa_X10_40 (Or.inr ⟨_, rfl⟩) ta0 eb113 dX10_worked_145 (fun tb113 => ?_)
          have tb113 : ∃ n, (mT m0) b113 = some (.inr (0, n)) := tb113
          refine lv_iload hx hb dX10_worked_148 (lv_at hl 0 rfl) ?_
          refine lv_iconst hx hb dX10_worked_150 ki_1 ?_
          refine lv_isub hx hb dX10_worked_151 ?_
          refine lv_iload hx hb dX10_worked_152 (lv_at hl 1 rfl) ?_
          refine lv_aload_n hx hb dX10_worked_154 rfl (lv_at hl 2 rfl) ?_
          obtain ⟨b114, eb114, hf⟩ := fo_el hf
          refine x_getR C hw fa_X10_40 (Or.inr ⟨_, rfl⟩) ta0 eb114 dX10_worked_155 (fun tb114 => ?_)
          have tb114 : ∃ n, (mT m0) b114 = some (.inr (0, n)) := tb114
          refine lv_iload hx hb dX10_worked_158 (lv_at hl 0 rfl) ?_
          refine lv_iconst hx hb dX10_worked_160 ki_1 ?_
          refine lv_isub hx hb dX10_worked_161 ?_
          obtain ⟨g115, hf⟩ := gd_el hf
          refine x_iald C hw tb114 g115 dX10_worked_162 ?_
          refine lv_aload_n hx hb dX10_worked_163 rfl (lv_at hl 2 rfl) ?_
          obtain ⟨b116, eb116, hf⟩ := fo_el hf
          refine x_getR C hw fa_X10_40 (Or.inr ⟨_, rfl⟩) ta0 eb116 dX10_worked_164 (fun tb116 => ?_)
          have tb116 : ∃ n, (mT m0) b116 = some (.inr (0, n)) := tb116
          refine lv_iload hx hb dX10_worked_167 (lv_at hl 0 rfl) ?_
          obtain ⟨g117, hf⟩ := gd_el hf
          refine x_iald C hw tb116 g117 dX10_worked_169 ?_
          obtain ⟨r119, m118, cm118, hf⟩ := b2_el (o := f_X10_both x111 (mI mu b114 (Int32.toNatClampNeg (x112 - 1))) (mI mu b116 (Int32.toNatClampNeg x112)) mu) hf
          refine x_callSi (As := [.int x111, .int (mI mu b114 (Int32.toNatClampNeg (x112 - 1))), .int (mI mu b116 (Int32.toNatClampNeg x112))]) (rest := [.int (x112 - 1), .ref b113]) C hl.1 hw cb_X10_184 cs_X10_both (k_X10_both hw.2.2.2.2  cm118) rfl (by decide) ⟨Nat.le_refl _, Nat.le_refl _⟩ rfl (Nat.le_of_ble_eq_true rfl) dX10_worked_170 (fun H locs hw tr119 => ?_)
          obtain ⟨g120, hf⟩ := gd_el hf
          refine x_iast C hw tb113 g120 dX10_worked_173 (fun m121 H locs em121 hw => ?_)
          have hf := nm_el hf em121
          obtain ⟨x122, ex122⟩ : ∃ z : Int32, z = x6 + 1 := ⟨_, rfl⟩
          have hf := nm_el hf ex122
          refine lv_iinc (v := x122) (lv' := [(6, .int x122), (5, .int x112), (7, .int x111), (0, .ref a0), (1, .int x1), (2, .int x2), (3, .int x3), (4, .int x4)]) hx hb dX10_worked_174 hl (k := 7) rfl (by rw [ex122, ki_1]) (by decide) rfl (fun ls hl => ?_)
          refine lv_goto (tgt := 16) hx hb dX10_worked_177 (by decide) ?_
          exact ih _ _ _ _ _ _ (lv_sub hl [3, 4, 5, 6, 7, 1, 0] rfl) hw hf
        · have hf := ifp hf c
          obtain ⟨x123, ex123⟩ : ∃ z : Int32, z = x5 + (-2) := ⟨_, rfl⟩
          have hf := nm_el hf ex123
          refine lv_iinc (v := x123) (lv' := [(5, .int x123), (7, .int x111), (0, .ref a0), (1, .int x1), (2, .int x2), (3, .int x3), (4, .int x4), (6, .int x6)]) hx hb dX10_worked_95 hl (k := 6) rfl (by rw [ex123, ki_m2]) (by decide) rfl (fun ls hl => ?_)
          refine lv_aload_n hx hb dX10_worked_98 rfl (lv_at hl 2 rfl) ?_
          obtain ⟨b124, eb124, hf⟩ := fo_el hf
          refine x_getR C hw fa_X10_40 (Or.inr ⟨_, rfl⟩) ta0 eb124 dX10_worked_99 (fun tb124 => ?_)
          have tb124 : ∃ n, (mT m0) b124 = some (.inr (0, n)) := tb124
          refine lv_iload hx hb dX10_worked_102 (lv_at hl 0 rfl) ?_
          refine lv_iconst hx hb dX10_worked_104 ki_1 ?_
          refine lv_isub hx hb dX10_worked_105 ?_
          refine lv_aload_n hx hb dX10_worked_106 rfl (lv_at hl 2 rfl) ?_
          obtain ⟨b125, eb125, hf⟩ := fo_el hf
          refine x_getR C hw fa_X10_40 (Or.inr ⟨_, rfl⟩) ta0 eb125 dX10_worked_107 (fun tb125 => ?_)
          have tb125 : ∃ n, (mT m0) b125 = some (.inr (0, n)) := tb125
          refine lv_iload hx hb dX10_worked_110 (lv_at hl 0 rfl) ?_
          refine lv_iconst hx hb dX10_worked_112 ki_1 ?_
          refine lv_isub hx hb dX10_worked_113 ?_
          obtain ⟨g126, hf⟩ := gd_el hf
          refine x_iald C hw tb125 g126 dX10_worked_114 ?_
          refine lv_if_ne (tgt := 130) hx hb dX10_worked_115 (by decide) (fun c => ?_) (fun c => ?_)
          · have hf := ifn hf c
            refine lv_aload_n hx hb dX10_worked_130 rfl (lv_at hl 2 rfl) ?_
            obtain ⟨b127, eb127, hf⟩ := fo_el hf
            refine x_getR C hw fa_X10_40 (Or.inr ⟨_, rfl⟩) ta0 eb127 dX10_worked_131 (fun tb127 => ?_)
            have tb127 : ∃ n, (mT m0) b127 = some (.inr (0, n)) := tb127
            refine lv_iload hx hb dX10_worked_134 (lv_at hl 0 rfl) ?_
            obtain ⟨g128, hf⟩ := gd_el hf
            refine x_iald C hw tb127 g128 dX10_worked_136 ?_
            obtain ⟨g129, hf⟩ := gd_el hf
            refine x_iast C hw tb124 g129 dX10_worked_137 (fun m130 H locs em130 hw => ?_)
            have hf := nm_el hf em130
            refine lv_goto (tgt := 174) hx hb dX10_worked_138 (by decide) ?_
            obtain ⟨x131, ex131⟩ : ∃ z : Int32, z = x6 + 1 := ⟨_, rfl⟩
            have hf := nm_el hf ex131
            refine lv_iinc (v := x131) (lv' := [(6, .int x131), (5, .int x123), (7, .int x111), (0, .ref a0), (1, .int x1), (2, .int x2), (3, .int x3), (4, .int x4)]) hx hb dX10_worked_174 hl (k := 7) rfl (by rw [ex131, ki_1]) (by decide) rfl (fun ls hl => ?_)
            refine lv_goto (tgt := 16) hx hb dX10_worked_177 (by decide) ?_
            exact ih _ _ _ _ _ _ (lv_sub hl [3, 4, 5, 6, 7, 1, 0] rfl) hw hf
          · have hf := ifp hf c
            refine lv_aload_n hx hb dX10_worked_118 rfl (lv_at hl 2 rfl) ?_
            obtain ⟨b132, eb132, hf⟩ := fo_el hf
            refine x_getR C hw fa_X10_40 (Or.inr ⟨_, rfl⟩) ta0 eb132 dX10_worked_119 (fun tb132 => ?_)
            have tb132 : ∃ n, (mT m0) b132 = some (.inr (0, n)) := tb132
            refine lv_iload hx hb dX10_worked_122 (lv_at hl 0 rfl) ?_
            refine lv_iconst hx hb dX10_worked_124 ki_1 ?_
            refine lv_iadd hx hb dX10_worked_125 ?_
            obtain ⟨g133, hf⟩ := gd_el hf
            refine x_iald C hw tb132 g133 dX10_worked_126 ?_
            refine lv_goto (tgt := 137) hx hb dX10_worked_127 (by decide) ?_
            obtain ⟨g134, hf⟩ := gd_el hf
            refine x_iast C hw tb124 g134 dX10_worked_137 (fun m135 H locs em135 hw => ?_)
            have hf := nm_el hf em135
            refine lv_goto (tgt := 174) hx hb dX10_worked_138 (by decide) ?_
            obtain ⟨x136, ex136⟩ : ∃ z : Int32, z = x6 + 1 := ⟨_, rfl⟩
            have hf := nm_el hf ex136
            refine lv_iinc (v := x136) (lv' := [(6, .int x136), (5, .int x123), (7, .int x111), (0, .ref a0), (1, .int x1), (2, .int x2), (3, .int x3), (4, .int x4)]) hx hb dX10_worked_174 hl (k := 7) rfl (by rw [ex136, ki_1]) (by decide) rfl (fun ls hl => ?_)
            refine lv_goto (tgt := 16) hx hb dX10_worked_177 (by decide) ?_
            exact ih _ _ _ _ _ _ (lv_sub hl [3, 4, 5, 6, 7, 1, 0] rfl) hw hf
      · have hf := ifn hf c
        refine lv_aload_n hx hb dX10_worked_48 rfl (lv_at hl 1 rfl) ?_
        obtain ⟨b137, eb137, hf⟩ := fo_el hf
        refine x_getR C hw fa_X10_40 (Or.inr ⟨_, rfl⟩) ta0 eb137 dX10_worked_49 (fun tb137 => ?_)
        have tb137 : ∃ n, (mT m0) b137 = some (.inr (0, n)) := tb137
        refine lv_iload hx hb dX10_worked_52 (lv_at hl 6 rfl) ?_
        refine lv_iload hx hb dX10_worked_54 (lv_at hl 0 rfl) ?_
        refine lv_sipush hx hb dX10_worked_56 ks_10000 ?_
        refine lv_icmp_ge (tgt := 67) hx hb dX10_worked_59 (by decide) (fun c => ?_) (fun c => ?_)
        · have hf := ifp hf c
          refine lv_aload_n hx hb dX10_worked_67 rfl (lv_at hl 1 rfl) ?_
          refine lv_iload hx hb dX10_worked_68 (lv_at hl 0 rfl) ?_
          refine lv_sipush hx hb dX10_worked_70 ks_10000 ?_
          refine lv_isub hx hb dX10_worked_73 ?_
          refine lv_iload_n hx hb dX10_worked_74 rfl (lv_at hl 2 rfl) ?_
          refine lv_iload_n hx hb dX10_worked_75 rfl (lv_at hl 3 rfl) ?_
          refine lv_iload_n hx hb dX10_worked_76 rfl (lv_at hl 4 rfl) ?_
          obtain ⟨r139, m138, cm138, hf⟩ := b2_el (o := f_X10_named a0 (x111 - 10000) x1 x2 x3 mu) hf
          refine x_callVi (As := [.int (x111 - 10000), .int x1, .int x2, .int x3]) (rest := [.int x5, .ref b137]) C hl.1 hw cb_X10_180 cv_X10_named (k_X10_named hw.2.2.2.2 ta0 cm138) ta0 rfl rfl (by decide) ⟨Nat.le_refl _, Nat.le_refl _⟩ rfl (Nat.le_of_ble_eq_true rfl) dX10_worked_77 (fun H locs hw tr139 => ?_)
          obtain ⟨g140, hf⟩ := gd_el hf
          refine x_iast C hw tb137 g140 dX10_worked_80 (fun m141 H locs em141 hw => ?_)
          have hf := nm_el hf em141
          obtain ⟨x142, ex142⟩ : ∃ z : Int32, z = x5 + 1 := ⟨_, rfl⟩
          have hf := nm_el hf ex142
          refine lv_iinc (v := x142) (lv' := [(5, .int x142), (7, .int x111), (0, .ref a0), (1, .int x1), (2, .int x2), (3, .int x3), (4, .int x4), (6, .int x6)]) hx hb dX10_worked_81 hl (k := 6) rfl (by rw [ex142, ki_1]) (by decide) rfl (fun ls hl => ?_)
          refine lv_goto (tgt := 174) hx hb dX10_worked_84 (by decide) ?_
          obtain ⟨x143, ex143⟩ : ∃ z : Int32, z = x6 + 1 := ⟨_, rfl⟩
          have hf := nm_el hf ex143
          refine lv_iinc (v := x143) (lv' := [(6, .int x143), (5, .int x142), (7, .int x111), (0, .ref a0), (1, .int x1), (2, .int x2), (3, .int x3), (4, .int x4)]) hx hb dX10_worked_174 hl (k := 7) rfl (by rw [ex143, ki_1]) (by decide) rfl (fun ls hl => ?_)
          refine lv_goto (tgt := 16) hx hb dX10_worked_177 (by decide) ?_
          exact ih _ _ _ _ _ _ (lv_sub hl [3, 4, 5, 6, 7, 1, 0] rfl) hw hf
        · have hf := ifn hf c
          refine lv_iload hx hb dX10_worked_62 (lv_at hl 0 rfl) ?_
          refine lv_goto (tgt := 80) hx hb dX10_worked_64 (by decide) ?_
          obtain ⟨g144, hf⟩ := gd_el hf
          refine x_iast C hw tb137 g144 dX10_worked_80 (fun m145 H locs em145 hw => ?_)
          have hf := nm_el hf em145
          obtain ⟨x146, ex146⟩ : ∃ z : Int32, z = x5 + 1 := ⟨_, rfl⟩
          have hf := nm_el hf ex146
          refine lv_iinc (v := x146) (lv' := [(5, .int x146), (7, .int x111), (0, .ref a0), (1, .int x1), (2, .int x2), (3, .int x3), (4, .int x4), (6, .int x6)]) hx hb dX10_worked_81 hl (k := 6) rfl (by rw [ex146, ki_1]) (by decide) rfl (fun ls hl => ?_)
          refine lv_goto (tgt := 174) hx hb dX10_worked_84 (by decide) ?_
          obtain ⟨x147, ex147⟩ : ∃ z : Int32, z = x6 + 1 := ⟨_, rfl⟩
          have hf := nm_el hf ex147
          refine lv_iinc (v := x147) (lv' := [(6, .int x147), (5, .int x146), (7, .int x111), (0, .ref a0), (1, .int x1), (2, .int x2), (3, .int x3), (4, .int x4)]) hx hb dX10_worked_174 hl (k := 7) rfl (by rw [ex147, ki_1]) (by decide) rfl (fun ls hl => ?_)
          refine lv_goto (tgt := 16) hx hb dX10_worked_177 (by decide) ?_
          exact ih _ _ _ _ _ _ (lv_sub hl [3, 4, 5, 6, 7, 1, 0] rfl) hw hf
set_option maxHeartbeats 4000000 in
set_option maxRecDepth 100000 in
theorem k_X10_worked {l : Launch} {D : va_G} {E : Nat → ClassId} {tU : Nat} {τ : Nat → Option XTy} {a0 : Nat} {x1 : Int32} {x2 : Int32} {x3 : Int32} {m0 mE : XMem} {rE : Int32} (hm : mT m0 = τ) (ta0 : τ a0 = some (.inl 10)) (hf : f_X10_worked a0 x1 x2 x3 m0 = some (rE, mE)) : Ct l yX10_worked cX10_worked 8 ((Option.some FieldType.int)) 5 0 0 D E tU [.ref a0, .int x1, .int x2, .int x3] m0 (some (.int rE)) mE (mT mE = mT m0 ∧ True) := by
  subst hm
  refine Ct.of (by decide) (Nat.le_of_ble_eq_true rfl) (fun p e s m below meth c ls C hr hk hnm hl hw => ?_)
  have hx := C.1
  have hb := C.2.1
  have hl : lv_has ls 8 [(0, .ref a0), (1, .int x1), (2, .int x2), (3, .int x3)] := hl
  unfold f_X10_worked at hf
  refine lv_sipush hx hb dX10_worked_0 ks_243 ?_
  refine lv_bipush hx hb dX10_worked_3 kb_102 ?_
  refine lv_iload_n hx hb dX10_worked_5 rfl (lv_at hl 1 rfl) ?_
  refine lv_imul hx hb dX10_worked_6 ?_
  refine lv_iadd hx hb dX10_worked_7 ?_
  refine lv_topi (fun x101 ex101 => ?_)
  have hf := nm_el hf ex101
  refine lv_istore (lv' := [(4, .int x101), (0, .ref a0), (1, .int x1), (2, .int x2), (3, .int x3)]) hx hb dX10_worked_8 hl (by decide) rfl (fun ls hl => ?_)
  refine lv_iconst hx hb dX10_worked_10 ki_0 ?_
  refine lv_istore (lv' := [(5, .int 0), (4, .int x101), (0, .ref a0), (1, .int x1), (2, .int x2), (3, .int x3)]) hx hb dX10_worked_11 hl (by decide) rfl (fun ls hl => ?_)
  refine lv_iconst hx hb dX10_worked_13 ki_1 ?_
  refine lv_istore (lv' := [(6, .int 1), (5, .int 0), (4, .int x101), (0, .ref a0), (1, .int x1), (2, .int x2), (3, .int x3)]) hx hb dX10_worked_14 hl (by decide) rfl (fun ls hl => ?_)
  refine w_X10_worked_h16 C hr hk hnm ta0 ?_ 2000 _ _ _ _ _ _ (lv_sub hl [3, 4, 5, 6, 2, 1, 0] rfl) hw hf
  intro m102 H locs ls hl hw hf
  refine lv_aload_n hx hb dX10_worked_180 rfl (lv_at hl 0 rfl) ?_
  obtain ⟨b103, eb103, hf⟩ := fo_el hf
  refine x_getR C hw fa_X10_7 (Or.inr ⟨_, rfl⟩) ta0 eb103 dX10_worked_181 (fun tb103 => ?_)
  have tb103 : ∃ n, (mT m0) b103 = some (.inr (0, n)) := tb103
  refine lv_iload hx hb dX10_worked_184 (lv_at hl 2 rfl) ?_
  obtain ⟨g104, hf⟩ := gd_el hf
  refine x_iald C hw tb103 g104 dX10_worked_186 ?_
  refine lv_if_le (tgt := 199) hx hb dX10_worked_187 (by decide) (fun c => ?_) (fun c => ?_)
  · have hf := ifp hf c
    refine lv_iload_n hx hb dX10_worked_199 rfl (lv_at hl 1 rfl) ?_
    refine lv_bipush hx hb dX10_worked_200 kb_7 ?_
    refine lv_icmp_ne (tgt := 209) hx hb dX10_worked_202 (by decide) (fun c => ?_) (fun c => ?_)
    · have hf := ifn hf c
      refine lv_iconst hx hb dX10_worked_209 ki_0 ?_
      exact x_retI C hr hk hw  hf (by decide) (by decide) dX10_worked_210
    · have hf := ifp hf c
      refine lv_iconst hx hb dX10_worked_205 ki_1 ?_
      refine lv_goto (tgt := 210) hx hb dX10_worked_206 (by decide) ?_
      exact x_retI C hr hk hw  hf (by decide) (by decide) dX10_worked_210
  · have hf := ifn hf c
    refine lv_aload_n hx hb dX10_worked_190 rfl (lv_at hl 0 rfl) ?_
    obtain ⟨b105, eb105, hf⟩ := fo_el hf
    refine x_getR C hw fa_X10_40 (Or.inr ⟨_, rfl⟩) ta0 eb105 dX10_worked_191 (fun tb105 => ?_)
    have tb105 : ∃ n, (mT m0) b105 = some (.inr (0, n)) := tb105
    refine lv_iconst hx hb dX10_worked_194 ki_0 ?_
    obtain ⟨g106, hf⟩ := gd_el hf
    refine x_iald C hw tb105 g106 dX10_worked_195 ?_
    refine lv_goto (tgt := 210) hx hb dX10_worked_196 (by decide) ?_
    exact x_retI C hr hk hw  hf (by decide) (by decide) dX10_worked_210
set_option maxHeartbeats 4000000 in
set_option maxRecDepth 100000 in
theorem k_X10_held {l : Launch} {D : va_G} {E : Nat → ClassId} {tU : Nat} {τ : Nat → Option XTy} {x0 : Int32} {m0 mE : XMem} {rE : Int32} (hm : mT m0 = τ)  (hf : f_X10_held x0 m0 = some (rE, mE)) : Ct l yX10_held cX10_held 1 ((Option.some FieldType.int)) 1 0 0 D E tU [.int x0] m0 (some (.int rE)) mE (mT mE = mT m0 ∧ True) := by
  subst hm
  refine Ct.of (by decide) (Nat.le_of_ble_eq_true rfl) (fun p e s m below meth c ls C hr hk hnm hl hw => ?_)
  have hx := C.1
  have hb := C.2.1
  have hl : lv_has ls 1 [(0, .int x0)] := hl
  unfold f_X10_held at hf
  refine lv_iload_n hx hb dX10_held_0 rfl (lv_at hl 0 rfl) ?_
  refine lv_if_ge (tgt := 8) hx hb dX10_held_1 (by decide) (fun c => ?_) (fun c => ?_)
  · have hf := ifp hf c
    refine lv_iload_n hx hb dX10_held_8 rfl (lv_at hl 0 rfl) ?_
    refine lv_sipush hx hb dX10_held_9 ks_9999 ?_
    refine lv_icmp_le (tgt := 21) hx hb dX10_held_12 (by decide) (fun c => ?_) (fun c => ?_)
    · have hf := ifp hf c
      refine lv_iload_n hx hb dX10_held_21 rfl (lv_at hl 0 rfl) ?_
      exact x_retI C hr hk hw  hf (by decide) (by decide) dX10_held_22
    · have hf := ifn hf c
      refine lv_sipush hx hb dX10_held_15 ks_9999 ?_
      refine lv_goto (tgt := 22) hx hb dX10_held_18 (by decide) ?_
      exact x_retI C hr hk hw  hf (by decide) (by decide) dX10_held_22
  · have hf := ifn hf c
    refine lv_iconst hx hb dX10_held_4 ki_0 ?_
    refine lv_goto (tgt := 22) hx hb dX10_held_5 (by decide) ?_
    exact x_retI C hr hk hw  hf (by decide) (by decide) dX10_held_22
set_option maxHeartbeats 4000000 in
set_option maxRecDepth 100000 in
theorem k_X10_backOf {l : Launch} {D : va_G} {E : Nat → ClassId} {tU : Nat} {τ : Nat → Option XTy} {a0 : Nat} {x1 : Int32} {x2 : Int32} {m0 mE : XMem} {rE : Int32} (hm : mT m0 = τ) (ta0 : τ a0 = some (.inl 10)) (hf : f_X10_backOf a0 x1 x2 m0 = some (rE, mE)) : Ct l yX10_backOf cX10_backOf 4 ((Option.some FieldType.int)) 2 0 0 D E tU [.ref a0, .int x1, .int x2] m0 (some (.int rE)) mE (mT mE = mT m0 ∧ True) := by
  subst hm
  refine Ct.of (by decide) (Nat.le_of_ble_eq_true rfl) (fun p e s m below meth c ls C hr hk hnm hl hw => ?_)
  have hx := C.1
  have hb := C.2.1
  have hl : lv_has ls 4 [(0, .ref a0), (1, .int x1), (2, .int x2)] := hl
  unfold f_X10_backOf at hf
  refine lv_aload_n hx hb dX10_backOf_0 rfl (lv_at hl 0 rfl) ?_
  refine lv_iload_n hx hb dX10_backOf_1 rfl (lv_at hl 1 rfl) ?_
  refine lv_iconst hx hb dX10_backOf_2 ki_0 ?_
  obtain ⟨r102, m101, cm101, hf⟩ := b2_el (o := f_X10_ofCell a0 x1 0 m0) hf
  refine x_callVi (As := [.int x1, .int 0]) (rest := []) C hl.1 hw cb_X10_80 cv_X10_ofCell (k_X10_ofCell hw.2.2.2.2 ta0 cm101) ta0 rfl rfl (by decide) ⟨Nat.le_refl _, Nat.le_refl _⟩ rfl (Nat.le_of_ble_eq_true rfl) dX10_backOf_3 (fun H locs hw tr102 => ?_)
  refine lv_istore_n (lv' := [(3, .int r102), (0, .ref a0), (1, .int x1), (2, .int x2)]) hx hb dX10_backOf_6 rfl hl (by decide) rfl (fun ls hl => ?_)
  refine lv_iload_n hx hb dX10_backOf_7 rfl (lv_at hl 0 rfl) ?_
  refine lv_iconst hx hb dX10_backOf_8 ki_2 ?_
  refine lv_icmp_ne (tgt := 18) hx hb dX10_backOf_9 (by decide) (fun c => ?_) (fun c => ?_)
  · have hf := ifn hf c
    refine lv_iload_n hx hb dX10_backOf_18 rfl (lv_at hl 0 rfl) ?_
    refine lv_iconst hx hb dX10_backOf_19 ki_5 ?_
    refine lv_icmp_ne (tgt := 34) hx hb dX10_backOf_20 (by decide) (fun c => ?_) (fun c => ?_)
    · have hf := ifn hf c
      refine lv_iconst hx hb dX10_backOf_34 ki_0 ?_
      exact x_retI C hr hk hw  hf (by decide) (by decide) dX10_backOf_35
    · have hf := ifp hf c
      refine lv_iload_n hx hb dX10_backOf_23 rfl (lv_at hl 3 rfl) ?_
      refine lv_iconst hx hb dX10_backOf_24 ki_2 ?_
      refine lv_idiv hx hb dX10_backOf_25 (by decide) ?_
      refine lv_iload_n hx hb dX10_backOf_26 rfl (lv_at hl 3 rfl) ?_
      refine lv_bipush hx hb dX10_backOf_27 kb_10 ?_
      refine lv_idiv hx hb dX10_backOf_29 (by decide) ?_
      refine lv_iadd hx hb dX10_backOf_30 ?_
      refine lv_goto (tgt := 35) hx hb dX10_backOf_31 (by decide) ?_
      exact x_retI C hr hk hw  hf (by decide) (by decide) dX10_backOf_35
  · have hf := ifp hf c
    refine lv_iload_n hx hb dX10_backOf_12 rfl (lv_at hl 3 rfl) ?_
    refine lv_iconst hx hb dX10_backOf_13 ki_2 ?_
    refine lv_idiv hx hb dX10_backOf_14 (by decide) ?_
    refine lv_goto (tgt := 35) hx hb dX10_backOf_15 (by decide) ?_
    exact x_retI C hr hk hw  hf (by decide) (by decide) dX10_backOf_35
set_option maxHeartbeats 4000000 in
set_option maxRecDepth 100000 in
theorem k_X10_puts {l : Launch} {D : va_G} {E : Nat → ClassId} {tU : Nat} {τ : Nat → Option XTy} {a0 : Nat} {x1 : Int32} {x2 : Int32} {x3 : Int32} {m0 mE : XMem} (hm : mT m0 = τ) (ta0 : τ a0 = some (.inl 10)) (hf : f_X10_puts a0 x1 x2 x3 m0 = some mE) : Ct l yX10_puts cX10_puts 4 ((Option.none : Option FieldType)) 1 0 0 D E tU [.ref a0, .int x1, .int x2, .int x3] m0 (none) mE (mT mE = mT m0 ∧ True) := by
  subst hm
  refine Ct.of (by decide) (Nat.le_of_ble_eq_true rfl) (fun p e s m below meth c ls C hr hk hnm hl hw => ?_)
  have hx := C.1
  have hb := C.2.1
  have hl : lv_has ls 4 [(0, .ref a0), (1, .int x1), (2, .int x2), (3, .int x3)] := hl
  unfold f_X10_puts at hf
  refine lv_aload_n hx hb dX10_puts_0 rfl (lv_at hl 0 rfl) ?_
  obtain ⟨b101, eb101, hf⟩ := fo_el hf
  refine x_getR C hw fa_X10_7 (Or.inr ⟨_, rfl⟩) ta0 eb101 dX10_puts_1 (fun tb101 => ?_)
  have tb101 : ∃ n, (mT m0) b101 = some (.inr (0, n)) := tb101
  refine lv_bipush hx hb dX10_puts_4 kb_11 ?_
  refine lv_bipush hx hb dX10_puts_6 kb_17 ?_
  refine lv_iload_n hx hb dX10_puts_8 rfl (lv_at hl 1 rfl) ?_
  refine lv_imul hx hb dX10_puts_9 ?_
  refine lv_iadd hx hb dX10_puts_10 ?_
  refine lv_iload_n hx hb dX10_puts_11 rfl (lv_at hl 2 rfl) ?_
  refine lv_iadd hx hb dX10_puts_12 ?_
  refine lv_iload_n hx hb dX10_puts_13 rfl (lv_at hl 3 rfl) ?_
  obtain ⟨g102, hf⟩ := gd_el hf
  refine x_iast C hw tb101 g102 dX10_puts_14 (fun m103 H locs em103 hw => ?_)
  have hf := nm_el hf em103
  exact x_ret C hr hk hw  hf (by decide) (by decide) dX10_puts_15
set_option maxHeartbeats 4000000 in
set_option maxRecDepth 100000 in
theorem k_X10_rayOf {l : Launch} {D : va_G} {E : Nat → ClassId} {tU : Nat} {τ : Nat → Option XTy} {a0 : Nat} {x1 : Int32} {m0 mE : XMem} {rE : Int32} (hm : mT m0 = τ) (ta0 : τ a0 = some (.inl 10)) (hf : f_X10_rayOf a0 x1 m0 = some (rE, mE)) : Ct l yX10_rayOf cX10_rayOf 2 ((Option.some FieldType.int)) 1 0 0 D E tU [.ref a0, .int x1] m0 (some (.int rE)) mE (mT mE = mT m0 ∧ True) := by
  subst hm
  refine Ct.of (by decide) (Nat.le_of_ble_eq_true rfl) (fun p e s m below meth c ls C hr hk hnm hl hw => ?_)
  have hx := C.1
  have hb := C.2.1
  have hl : lv_has ls 2 [(0, .ref a0), (1, .int x1)] := hl
  unfold f_X10_rayOf at hf
  refine lv_iload_n hx hb dX10_rayOf_0 rfl (lv_at hl 1 rfl) ?_
  refine lv_if_ge (tgt := 8) hx hb dX10_rayOf_1 (by decide) (fun c => ?_) (fun c => ?_)
  · have hf := ifp hf c
    refine lv_aload_n hx hb dX10_rayOf_8 rfl (lv_at hl 0 rfl) ?_
    obtain ⟨b101, eb101, hf⟩ := fo_el hf
    refine x_getR C hw fa_X10_7 (Or.inr ⟨_, rfl⟩) ta0 eb101 dX10_rayOf_9 (fun tb101 => ?_)
    have tb101 : ∃ n, (mT m0) b101 = some (.inr (0, n)) := tb101
    refine lv_iconst hx hb dX10_rayOf_12 ki_5 ?_
    refine lv_iload_n hx hb dX10_rayOf_13 rfl (lv_at hl 1 rfl) ?_
    refine lv_iadd hx hb dX10_rayOf_14 ?_
    obtain ⟨g102, hf⟩ := gd_el hf
    refine x_iald C hw tb101 g102 dX10_rayOf_15 ?_
    exact x_retI C hr hk hw  hf (by decide) (by decide) dX10_rayOf_16
  · have hf := ifn hf c
    refine lv_iconst hx hb dX10_rayOf_4 ki_0 ?_
    refine lv_goto (tgt := 16) hx hb dX10_rayOf_5 (by decide) ?_
    exact x_retI C hr hk hw  hf (by decide) (by decide) dX10_rayOf_16
set_option maxHeartbeats 4000000 in
set_option maxRecDepth 100000 in
theorem w_X10_goes_h327 {p : Program} {l : Launch} {e : Env} {s : State} {m : MethodId} {args : Array Value} {below : List Frame} {meth : Method} {c : Code} {D : va_G} {E : Nat → ClassId} {tU : Nat} {m0 mE : XMem} (C : Cx p s m args c cX10_goes 15 RX10 D E (Am m0) tU) (hr : meth.sig.returnType = ((Option.none : Option FieldType))) (hk : meth.locks = false) (hnm : meth.name = yX10_goes.name) {a0 : Nat} {x1 : Int32} (ta0 : mT m0 a0 = some (.inl 10)) {k370 :  XMem → Option (XMem)} (hk370 : ∀  (mu : XMem) (H : Heap) (locs : List Loc) (ls : Array Slot), lv_has ls 15 [] → Wd D E (Am m0) s (mT m0) mu H locs →   k370  mu = some mE → W p l e (rmN 6 0 0) s m args below meth c H locs 0 0 (MQ below (XQ D E (Am m0) (none) mE (mT mE = mT m0 ∧ True)) args s 0 0 (Am m0)) (F0 m 370 ls [])) : ∀ (n : Nat) (x14 : Int32) (mu : XMem) (H : Heap) (locs : List Loc) (ls : Array Slot), lv_has ls 15 [(0, .ref a0), (1, .int x1), (14, .int x14)] → Wd D E (Am m0) s (mT m0) mu H locs → f_X10_goes_h327 a0 x1 k370 n x14 mu = some mE → W p l e (rmN 6 0 0) s m args below meth c H locs 0 0 (MQ below (XQ D E (Am m0) (none) mE (mT mE = mT m0 ∧ True)) args s 0 0 (Am m0)) (F0 m 327 ls []) := by
  have hx := C.1
  have hb := C.2.1
  intro n
  induction n with
  | zero =>
    intros
    rename_i hf
    cases hf
  | succ n ih =>
    intro x14 mu H locs ls hl hw hf
    rw [f_X10_goes_h327] at hf
    refine lv_iload hx hb dX10_goes_327 (lv_at hl 2 rfl) ?_
    refine lv_iconst hx hb dX10_goes_329 ki_4 ?_
    refine lv_icmp_ge (tgt := 370) hx hb dX10_goes_330 (by decide) (fun c => ?_) (fun c => ?_)
    · have hf := ifp hf c
      exact hk370 _ _ _ _ (lv_sub hl [] rfl) hw hf
    · have hf := ifn hf c
      refine lv_aload_n hx hb dX10_goes_333 rfl (lv_at hl 0 rfl) ?_
      refine lv_iload_n hx hb dX10_goes_334 rfl (lv_at hl 1 rfl) ?_
      refine lv_bipush hx hb dX10_goes_335 kb_13 ?_
      refine lv_iload hx hb dX10_goes_337 (lv_at hl 2 rfl) ?_
      refine lv_iadd hx hb dX10_goes_339 ?_
      refine lv_aload_n hx hb dX10_goes_340 rfl (lv_at hl 0 rfl) ?_
      refine lv_iload_n hx hb dX10_goes_341 rfl (lv_at hl 1 rfl) ?_
      refine lv_bipush hx hb dX10_goes_342 kb_13 ?_
      refine lv_iload hx hb dX10_goes_344 (lv_at hl 2 rfl) ?_
      refine lv_iadd hx hb dX10_goes_346 ?_
      obtain ⟨r153, m152, cm152, hf⟩ := b2_el (o := f_X10_ofCell a0 x1 (13 + x14) mu) hf
      refine x_callVi (As := [.int x1, .int (13 + x14)]) (rest := [.int (13 + x14), .int x1, .ref a0]) C hl.1 hw cb_X10_80 cv_X10_ofCell (k_X10_ofCell hw.2.2.2.2 ta0 cm152) ta0 rfl rfl (by decide) ⟨Nat.le_refl _, Nat.le_refl _⟩ rfl (Nat.le_of_ble_eq_true rfl) dX10_goes_347 (fun H locs hw tr153 => ?_)
      refine lv_aload_n hx hb dX10_goes_350 rfl (lv_at hl 0 rfl) ?_
      refine lv_iload_n hx hb dX10_goes_351 rfl (lv_at hl 1 rfl) ?_
      refine lv_bipush hx hb dX10_goes_352 kb_8 ?_
      refine lv_iload hx hb dX10_goes_354 (lv_at hl 2 rfl) ?_
      refine lv_iadd hx hb dX10_goes_356 ?_
      obtain ⟨r155, m154, cm154, hf⟩ := b2_el (o := f_X10_ofCell a0 x1 (8 + x14) m152) hf
      refine x_callVi (As := [.int x1, .int (8 + x14)]) (rest := [.int r153, .int (13 + x14), .int x1, .ref a0]) C hl.1 hw cb_X10_80 cv_X10_ofCell (k_X10_ofCell hw.2.2.2.2 ta0 cm154) ta0 rfl rfl (by decide) ⟨Nat.le_refl _, Nat.le_refl _⟩ rfl (Nat.le_of_ble_eq_true rfl) dX10_goes_357 (fun H locs hw tr155 => ?_)
      refine lv_iadd hx hb dX10_goes_360 ?_
      obtain ⟨m156, cm156, hf⟩ := b1_el (o := f_X10_puts a0 x1 (13 + x14) (r153 + r155) m154) hf
      refine x_callVv (As := [.int x1, .int (13 + x14), .int (r153 + r155)]) (rest := []) C hl.1 hw cb_X10_72 cv_X10_puts (k_X10_puts hw.2.2.2.2 ta0 cm156) ta0 rfl rfl (by decide) ⟨Nat.le_refl _, Nat.le_refl _⟩ rfl (Nat.le_of_ble_eq_true rfl) dX10_goes_361 (fun H locs hw tm156 => ?_)
      obtain ⟨x157, ex157⟩ : ∃ z : Int32, z = x14 + 1 := ⟨_, rfl⟩
      have hf := nm_el hf ex157
      refine lv_iinc (v := x157) (lv' := [(14, .int x157), (0, .ref a0), (1, .int x1)]) hx hb dX10_goes_364 hl (k := 2) rfl (by rw [ex157, ki_1]) (by decide) rfl (fun ls hl => ?_)
      refine lv_goto (tgt := 327) hx hb dX10_goes_367 (by decide) ?_
      exact ih _ _ _ _ _ (lv_sub hl [1, 2, 0] rfl) hw hf
set_option maxHeartbeats 4000000 in
set_option maxRecDepth 100000 in
theorem w_X10_goes_j241 {p : Program} {l : Launch} {e : Env} {s : State} {m : MethodId} {args : Array Value} {below : List Frame} {meth : Method} {c : Code} {D : va_G} {E : Nat → ClassId} {tU : Nat} {m0 mE : XMem} (C : Cx p s m args c cX10_goes 15 RX10 D E (Am m0) tU) (hr : meth.sig.returnType = ((Option.none : Option FieldType))) (hk : meth.locks = false) (hnm : meth.name = yX10_goes.name) {a0 : Nat} {x1 : Int32} {x2 : Int32} {x4 : Int32} {x5 : Int32} {x6 : Int32} {x8 : Int32} {xs0 : Int32} {mu : XMem} {H : Heap} {locs : List Loc} {ls : Array Slot} (ta0 : mT m0 a0 = some (.inl 10)) (hl : lv_has ls 15 [(0, .ref a0), (1, .int x1), (2, .int x2), (4, .int x4), (5, .int x5), (6, .int x6), (8, .int x8)]) (hw : Wd D E (Am m0) s (mT m0) mu H locs) (hf : f_X10_goes_j241 a0 x1 x2 x4 x5 x6 x8 xs0 mu = some mE) : W p l e (rmN 6 0 0) s m args below meth c H locs 0 0 (MQ below (XQ D E (Am m0) (none) mE (mT mE = mT m0 ∧ True)) args s 0 0 (Am m0)) (F0 m 241 ls [.int xs0]) := by
  have hx := C.1
  have hb := C.2.1
  unfold f_X10_goes_j241 at hf
  refine lv_istore (lv' := [(13, .int xs0), (0, .ref a0), (1, .int x1), (2, .int x2), (4, .int x4), (5, .int x5), (6, .int x6), (8, .int x8)]) hx hb dX10_goes_241 hl (by decide) rfl (fun ls hl => ?_)
  refine lv_aload_n hx hb dX10_goes_243 rfl (lv_at hl 1 rfl) ?_
  refine lv_iload_n hx hb dX10_goes_244 rfl (lv_at hl 2 rfl) ?_
  refine lv_bipush hx hb dX10_goes_245 kb_6 ?_
  refine lv_aload_n hx hb dX10_goes_247 rfl (lv_at hl 1 rfl) ?_
  refine lv_iload_n hx hb dX10_goes_248 rfl (lv_at hl 2 rfl) ?_
  refine lv_bipush hx hb dX10_goes_249 kb_6 ?_
  obtain ⟨r140, m139, cm139, hf⟩ := b2_el (o := f_X10_ofCell a0 x1 6 mu) hf
  refine x_callVi (As := [.int x1, .int 6]) (rest := [.int 6, .int x1, .ref a0]) C hl.1 hw cb_X10_80 cv_X10_ofCell (k_X10_ofCell hw.2.2.2.2 ta0 cm139) ta0 rfl rfl (by decide) ⟨Nat.le_refl _, Nat.le_refl _⟩ rfl (Nat.le_of_ble_eq_true rfl) dX10_goes_251 (fun H locs hw tr140 => ?_)
  refine lv_iload hx hb dX10_goes_254 (lv_at hl 0 rfl) ?_
  refine lv_isub hx hb dX10_goes_256 ?_
  obtain ⟨m141, cm141, hf⟩ := b1_el (o := f_X10_puts a0 x1 6 (r140 - xs0) m139) hf
  refine x_callVv (As := [.int x1, .int 6, .int (r140 - xs0)]) (rest := []) C hl.1 hw cb_X10_72 cv_X10_puts (k_X10_puts hw.2.2.2.2 ta0 cm141) ta0 rfl rfl (by decide) ⟨Nat.le_refl _, Nat.le_refl _⟩ rfl (Nat.le_of_ble_eq_true rfl) dX10_goes_257 (fun H locs hw tm141 => ?_)
  refine lv_aload_n hx hb dX10_goes_260 rfl (lv_at hl 1 rfl) ?_
  refine lv_iload_n hx hb dX10_goes_261 rfl (lv_at hl 2 rfl) ?_
  refine lv_bipush hx hb dX10_goes_262 kb_8 ?_
  refine lv_iload hx hb dX10_goes_264 (lv_at hl 6 rfl) ?_
  obtain ⟨m142, cm142, hf⟩ := b1_el (o := f_X10_puts a0 x1 8 x6 m141) hf
  refine x_callVv (As := [.int x1, .int 8, .int x6]) (rest := []) C hl.1 hw cb_X10_72 cv_X10_puts (k_X10_puts hw.2.2.2.2 ta0 cm142) ta0 rfl rfl (by decide) ⟨Nat.le_refl _, Nat.le_refl _⟩ rfl (Nat.le_of_ble_eq_true rfl) dX10_goes_266 (fun H locs hw tm142 => ?_)
  refine lv_aload_n hx hb dX10_goes_269 rfl (lv_at hl 1 rfl) ?_
  refine lv_iload_n hx hb dX10_goes_270 rfl (lv_at hl 2 rfl) ?_
  refine lv_bipush hx hb dX10_goes_271 kb_9 ?_
  refine lv_iload hx hb dX10_goes_273 (lv_at hl 7 rfl) ?_
  obtain ⟨m143, cm143, hf⟩ := b1_el (o := f_X10_puts a0 x1 9 x8 m142) hf
  refine x_callVv (As := [.int x1, .int 9, .int x8]) (rest := []) C hl.1 hw cb_X10_72 cv_X10_puts (k_X10_puts hw.2.2.2.2 ta0 cm143) ta0 rfl rfl (by decide) ⟨Nat.le_refl _, Nat.le_refl _⟩ rfl (Nat.le_of_ble_eq_true rfl) dX10_goes_275 (fun H locs hw tm143 => ?_)
  refine lv_aload_n hx hb dX10_goes_278 rfl (lv_at hl 1 rfl) ?_
  refine lv_iload_n hx hb dX10_goes_279 rfl (lv_at hl 2 rfl) ?_
  refine lv_bipush hx hb dX10_goes_280 kb_10 ?_
  refine lv_iload hx hb dX10_goes_282 (lv_at hl 5 rfl) ?_
  obtain ⟨m144, cm144, hf⟩ := b1_el (o := f_X10_puts a0 x1 10 x5 m143) hf
  refine x_callVv (As := [.int x1, .int 10, .int x5]) (rest := []) C hl.1 hw cb_X10_72 cv_X10_puts (k_X10_puts hw.2.2.2.2 ta0 cm144) ta0 rfl rfl (by decide) ⟨Nat.le_refl _, Nat.le_refl _⟩ rfl (Nat.le_of_ble_eq_true rfl) dX10_goes_284 (fun H locs hw tm144 => ?_)
  refine lv_aload_n hx hb dX10_goes_287 rfl (lv_at hl 1 rfl) ?_
  refine lv_iload_n hx hb dX10_goes_288 rfl (lv_at hl 2 rfl) ?_
  refine lv_bipush hx hb dX10_goes_289 kb_11 ?_
  refine lv_iload hx hb dX10_goes_291 (lv_at hl 0 rfl) ?_
  obtain ⟨m145, cm145, hf⟩ := b1_el (o := f_X10_puts a0 x1 11 xs0 m144) hf
  refine x_callVv (As := [.int x1, .int 11, .int xs0]) (rest := []) C hl.1 hw cb_X10_72 cv_X10_puts (k_X10_puts hw.2.2.2.2 ta0 cm145) ta0 rfl rfl (by decide) ⟨Nat.le_refl _, Nat.le_refl _⟩ rfl (Nat.le_of_ble_eq_true rfl) dX10_goes_293 (fun H locs hw tm145 => ?_)
  refine lv_aload_n hx hb dX10_goes_296 rfl (lv_at hl 1 rfl) ?_
  refine lv_iload_n hx hb dX10_goes_297 rfl (lv_at hl 2 rfl) ?_
  refine lv_bipush hx hb dX10_goes_298 kb_12 ?_
  refine lv_aload_n hx hb dX10_goes_300 rfl (lv_at hl 1 rfl) ?_
  refine lv_bipush hx hb dX10_goes_301 kb_6 ?_
  refine lv_iload_n hx hb dX10_goes_303 rfl (lv_at hl 2 rfl) ?_
  refine lv_iload hx hb dX10_goes_304 (lv_at hl 4 rfl) ?_
  obtain ⟨r147, m146, cm146, hf⟩ := b2_el (o := f_X10_worked a0 6 x1 x4 m145) hf
  refine x_callVi (As := [.int 6, .int x1, .int x4]) (rest := [.int 12, .int x1, .ref a0]) C hl.1 hw cb_X10_87 cv_X10_worked (k_X10_worked hw.2.2.2.2 ta0 cm146) ta0 rfl rfl (by decide) ⟨Nat.le_refl _, Nat.le_refl _⟩ rfl (Nat.le_of_ble_eq_true rfl) dX10_goes_306 (fun H locs hw tr147 => ?_)
  refine lv_iload hx hb dX10_goes_309 (lv_at hl 5 rfl) ?_
  refine lv_aload_n hx hb dX10_goes_311 rfl (lv_at hl 1 rfl) ?_
  refine lv_iload_n hx hb dX10_goes_312 rfl (lv_at hl 3 rfl) ?_
  obtain ⟨r149, m148, cm148, hf⟩ := b2_el (o := f_X10_rayOf a0 x2 m146) hf
  refine x_callVi (As := [.int x2]) (rest := [.int x5, .int r147, .int 12, .int x1, .ref a0]) C hl.1 hw cb_X10_100 cv_X10_rayOf (k_X10_rayOf hw.2.2.2.2 ta0 cm148) ta0 rfl rfl (by decide) ⟨Nat.le_refl _, Nat.le_refl _⟩ rfl (Nat.le_of_ble_eq_true rfl) dX10_goes_313 (fun H locs hw tr149 => ?_)
  refine lv_imul hx hb dX10_goes_316 ?_
  refine lv_bipush hx hb dX10_goes_317 kb_100 ?_
  refine lv_idiv hx hb dX10_goes_319 (by decide) ?_
  refine lv_iadd hx hb dX10_goes_320 ?_
  obtain ⟨m150, cm150, hf⟩ := b1_el (o := f_X10_puts a0 x1 12 (r147 + ((x5 * r149) / 100)) m148) hf
  refine x_callVv (As := [.int x1, .int 12, .int (r147 + ((x5 * r149) / 100))]) (rest := []) C hl.1 hw cb_X10_72 cv_X10_puts (k_X10_puts hw.2.2.2.2 ta0 cm150) ta0 rfl rfl (by decide) ⟨Nat.le_refl _, Nat.le_refl _⟩ rfl (Nat.le_of_ble_eq_true rfl) dX10_goes_321 (fun H locs hw tm150 => ?_)
  refine lv_iconst hx hb dX10_goes_324 ki_0 ?_
  refine lv_istore (lv' := [(14, .int 0), (13, .int xs0), (0, .ref a0), (1, .int x1), (2, .int x2), (4, .int x4), (5, .int x5), (6, .int x6), (8, .int x8)]) hx hb dX10_goes_325 hl (by decide) rfl (fun ls hl => ?_)
  refine w_X10_goes_h327 C hr hk hnm ta0 ?_ 2000 _ _ _ _ _ (lv_sub hl [2, 3, 0] rfl) hw hf
  intro m151 H locs ls hl hw hf
  exact x_ret C hr hk hw  hf (by decide) (by decide) dX10_goes_370
set_option maxHeartbeats 4000000 in
set_option maxRecDepth 100000 in
theorem w_X10_goes_j178 {p : Program} {l : Launch} {e : Env} {s : State} {m : MethodId} {args : Array Value} {below : List Frame} {meth : Method} {c : Code} {D : va_G} {E : Nat → ClassId} {tU : Nat} {m0 mE : XMem} (C : Cx p s m args c cX10_goes 15 RX10 D E (Am m0) tU) (hr : meth.sig.returnType = ((Option.none : Option FieldType))) (hk : meth.locks = false) (hnm : meth.name = yX10_goes.name) {a0 : Nat} {x1 : Int32} {x2 : Int32} {x4 : Int32} {x5 : Int32} {x6 : Int32} {x8 : Int32} {x10 : Int32} {mu : XMem} {H : Heap} {locs : List Loc} {ls : Array Slot} (ta0 : mT m0 a0 = some (.inl 10)) (hl : lv_has ls 15 [(0, .ref a0), (1, .int x1), (2, .int x2), (4, .int x4), (5, .int x5), (6, .int x6), (8, .int x8), (10, .int x10)]) (hw : Wd D E (Am m0) s (mT m0) mu H locs) (hf : f_X10_goes_j178 a0 x1 x2 x4 x5 x6 x8 x10 mu = some mE) : W p l e (rmN 6 0 0) s m args below meth c H locs 0 0 (MQ below (XQ D E (Am m0) (none) mE (mT mE = mT m0 ∧ True)) args s 0 0 (Am m0)) (F0 m 178 ls []) := by
  have hx := C.1
  have hb := C.2.1
  unfold f_X10_goes_j178 at hf
  refine lv_aload_n hx hb dX10_goes_178 rfl (lv_at hl 0 rfl) ?_
  refine lv_iload_n hx hb dX10_goes_179 rfl (lv_at hl 1 rfl) ?_
  refine lv_bipush hx hb dX10_goes_180 kb_6 ?_
  refine lv_aload_n hx hb dX10_goes_182 rfl (lv_at hl 0 rfl) ?_
  refine lv_iload_n hx hb dX10_goes_183 rfl (lv_at hl 1 rfl) ?_
  refine lv_bipush hx hb dX10_goes_184 kb_6 ?_
  obtain ⟨r128, m127, cm127, hf⟩ := b2_el (o := f_X10_ofCell a0 x1 6 mu) hf
  refine x_callVi (As := [.int x1, .int 6]) (rest := [.int 6, .int x1, .ref a0]) C hl.1 hw cb_X10_80 cv_X10_ofCell (k_X10_ofCell hw.2.2.2.2 ta0 cm127) ta0 rfl rfl (by decide) ⟨Nat.le_refl _, Nat.le_refl _⟩ rfl (Nat.le_of_ble_eq_true rfl) dX10_goes_186 (fun H locs hw tr128 => ?_)
  refine lv_iload hx hb dX10_goes_189 (lv_at hl 7 rfl) ?_
  refine lv_iadd hx hb dX10_goes_191 ?_
  refine lv_iload hx hb dX10_goes_192 (lv_at hl 4 rfl) ?_
  refine lv_iadd hx hb dX10_goes_194 ?_
  obtain ⟨m129, cm129, hf⟩ := b1_el (o := f_X10_puts a0 x1 6 ((r128 + x10) + x5) m127) hf
  refine x_callVv (As := [.int x1, .int 6, .int ((r128 + x10) + x5)]) (rest := []) C hl.1 hw cb_X10_72 cv_X10_puts (k_X10_puts hw.2.2.2.2 ta0 cm129) ta0 rfl rfl (by decide) ⟨Nat.le_refl _, Nat.le_refl _⟩ rfl (Nat.le_of_ble_eq_true rfl) dX10_goes_195 (fun H locs hw tm129 => ?_)
  refine lv_aload_n hx hb dX10_goes_198 rfl (lv_at hl 0 rfl) ?_
  refine lv_iload_n hx hb dX10_goes_199 rfl (lv_at hl 1 rfl) ?_
  obtain ⟨r131, m130, cm130, hf⟩ := b2_el (o := f_X10_warmth a0 x1 m129) hf
  refine x_callVi (As := [.int x1]) (rest := []) C hl.1 hw cb_X10_84 cv_X10_warmth (k_X10_warmth hw.2.2.2.2 ta0 cm130) ta0 rfl rfl (by decide) ⟨Nat.le_refl _, Nat.le_refl _⟩ rfl (Nat.le_of_ble_eq_true rfl) dX10_goes_200 (fun H locs hw tr131 => ?_)
  refine lv_i2l (v := (Int32.toInt64 r131)) hx hb dX10_goes_203 rfl ?_
  refine lv_aload_n hx hb dX10_goes_204 rfl (lv_at hl 0 rfl) ?_
  refine lv_iload_n hx hb dX10_goes_205 rfl (lv_at hl 1 rfl) ?_
  refine lv_iconst hx hb dX10_goes_206 ki_2 ?_
  obtain ⟨r133, m132, cm132, hf⟩ := b2_el (o := f_X10_ofCell a0 x1 2 m130) hf
  refine x_callVi (As := [.int x1, .int 2]) (rest := [.long (Int32.toInt64 r131)]) C hl.1 hw cb_X10_80 cv_X10_ofCell (k_X10_ofCell hw.2.2.2.2 ta0 cm132) ta0 rfl rfl (by decide) ⟨Nat.le_refl _, Nat.le_refl _⟩ rfl (Nat.le_of_ble_eq_true rfl) dX10_goes_207 (fun H locs hw tr133 => ?_)
  refine lv_i2l (v := (Int32.toInt64 r133)) hx hb dX10_goes_210 rfl ?_
  refine lv_lmul hx hb dX10_goes_211 ?_
  refine lv_topl (fun l134 el134 => ?_)
  have hf := nm_el hf el134
  refine lv_lstore (lv' := [(11, .long l134), (0, .ref a0), (1, .int x1), (2, .int x2), (4, .int x4), (5, .int x5), (6, .int x6), (8, .int x8), (10, .int x10)]) hx hb dX10_goes_212 hl (by decide) rfl (fun ls hl => ?_)
  refine lv_lload hx hb dX10_goes_214 (lv_at hl 0 rfl) ?_
  refine lv_aload_n hx hb dX10_goes_216 rfl (lv_at hl 1 rfl) ?_
  refine lv_iload_n hx hb dX10_goes_217 rfl (lv_at hl 2 rfl) ?_
  refine lv_bipush hx hb dX10_goes_218 kb_6 ?_
  obtain ⟨r136, m135, cm135, hf⟩ := b2_el (o := f_X10_ofCell a0 x1 6 m132) hf
  refine x_callVi (As := [.int x1, .int 6]) (rest := [.long l134]) C hl.1 hw cb_X10_80 cv_X10_ofCell (k_X10_ofCell hw.2.2.2.2 ta0 cm135) ta0 rfl rfl (by decide) ⟨Nat.le_refl _, Nat.le_refl _⟩ rfl (Nat.le_of_ble_eq_true rfl) dX10_goes_220 (fun H locs hw tr136 => ?_)
  refine lv_i2l (v := (Int32.toInt64 r136)) hx hb dX10_goes_223 rfl ?_
  refine W.lcmp hx hb dX10_goes_224 ?_
  refine lv_if_le (tgt := 238) hx hb dX10_goes_225 (by decide) (fun c => ?_) (fun c => ?_)
  · have hf := ifp hf c
    refine lv_lload hx hb dX10_goes_238 (lv_at hl 0 rfl) ?_
    refine lv_l2i (v := (Int64.toInt32 l134)) hx hb dX10_goes_240 rfl ?_
    exact w_X10_goes_j241 C hr hk hnm ta0 (lv_sub hl [1, 2, 3, 4, 5, 6, 7] rfl) hw hf
  · have hf := ifn hf c
    refine lv_aload_n hx hb dX10_goes_228 rfl (lv_at hl 1 rfl) ?_
    refine lv_iload_n hx hb dX10_goes_229 rfl (lv_at hl 2 rfl) ?_
    refine lv_bipush hx hb dX10_goes_230 kb_6 ?_
    obtain ⟨r138, m137, cm137, hf⟩ := b2_el (o := f_X10_ofCell a0 x1 6 m135) hf
    refine x_callVi (As := [.int x1, .int 6]) (rest := []) C hl.1 hw cb_X10_80 cv_X10_ofCell (k_X10_ofCell hw.2.2.2.2 ta0 cm137) ta0 rfl rfl (by decide) ⟨Nat.le_refl _, Nat.le_refl _⟩ rfl (Nat.le_of_ble_eq_true rfl) dX10_goes_232 (fun H locs hw tr138 => ?_)
    refine lv_goto (tgt := 241) hx hb dX10_goes_235 (by decide) ?_
    exact w_X10_goes_j241 C hr hk hnm ta0 (lv_sub hl [1, 2, 3, 4, 5, 6, 7] rfl) hw hf
set_option maxHeartbeats 4000000 in
set_option maxRecDepth 100000 in
theorem w_X10_goes_j175 {p : Program} {l : Launch} {e : Env} {s : State} {m : MethodId} {args : Array Value} {below : List Frame} {meth : Method} {c : Code} {D : va_G} {E : Nat → ClassId} {tU : Nat} {m0 mE : XMem} (C : Cx p s m args c cX10_goes 15 RX10 D E (Am m0) tU) (hr : meth.sig.returnType = ((Option.none : Option FieldType))) (hk : meth.locks = false) (hnm : meth.name = yX10_goes.name) {a0 : Nat} {x1 : Int32} {x2 : Int32} {x4 : Int32} {x5 : Int32} {x6 : Int32} {x8 : Int32} {x10 : Int32} {xs0 : Int32} {xs1 : Int32} {xs2 : Int32} {as3 : Nat} {mu : XMem} {H : Heap} {locs : List Loc} {ls : Array Slot} (ta0 : mT m0 a0 = some (.inl 10)) (tas3 : mT m0 as3 = some (.inl 10)) (hl : lv_has ls 15 [(0, .ref a0), (1, .int x1), (2, .int x2), (4, .int x4), (5, .int x5), (6, .int x6), (8, .int x8), (10, .int x10)]) (hw : Wd D E (Am m0) s (mT m0) mu H locs) (hf : f_X10_goes_j175 a0 x1 x2 x4 x5 x6 x8 x10 xs0 xs1 xs2 as3 mu = some mE) : W p l e (rmN 6 0 0) s m args below meth c H locs 0 0 (MQ below (XQ D E (Am m0) (none) mE (mT mE = mT m0 ∧ True)) args s 0 0 (Am m0)) (F0 m 175 ls [.int xs0, .int xs1, .int xs2, .ref as3]) := by
  have hx := C.1
  have hb := C.2.1
  unfold f_X10_goes_j175 at hf
  obtain ⟨m126, cm126, hf⟩ := b1_el (o := f_X10_puts as3 xs2 xs1 xs0 mu) hf
  refine x_callVv (As := [.int xs2, .int xs1, .int xs0]) (rest := []) C hl.1 hw cb_X10_72 cv_X10_puts (k_X10_puts hw.2.2.2.2 tas3 cm126) tas3 rfl rfl (by decide) ⟨Nat.le_refl _, Nat.le_refl _⟩ rfl (Nat.le_of_ble_eq_true rfl) dX10_goes_175 (fun H locs hw tm126 => ?_)
  exact w_X10_goes_j178 C hr hk hnm ta0 (lv_sub hl [0, 1, 2, 3, 4, 5, 6, 7] rfl) hw hf
set_option maxHeartbeats 4000000 in
set_option maxRecDepth 100000 in
theorem w_X10_goes_j154 {p : Program} {l : Launch} {e : Env} {s : State} {m : MethodId} {args : Array Value} {below : List Frame} {meth : Method} {c : Code} {D : va_G} {E : Nat → ClassId} {tU : Nat} {m0 mE : XMem} (C : Cx p s m args c cX10_goes 15 RX10 D E (Am m0) tU) (hr : meth.sig.returnType = ((Option.none : Option FieldType))) (hk : meth.locks = false) (hnm : meth.name = yX10_goes.name) {a0 : Nat} {x1 : Int32} {x2 : Int32} {x4 : Int32} {x5 : Int32} {x6 : Int32} {x8 : Int32} {x12 : Int32} {xs0 : Int32} {xs1 : Int32} {mu : XMem} {H : Heap} {locs : List Loc} {ls : Array Slot} (ta0 : mT m0 a0 = some (.inl 10)) (hl : lv_has ls 15 [(0, .ref a0), (1, .int x1), (2, .int x2), (4, .int x4), (5, .int x5), (6, .int x6), (8, .int x8), (12, .int x12)]) (hw : Wd D E (Am m0) s (mT m0) mu H locs) (hf : f_X10_goes_j154 a0 x1 x2 x4 x5 x6 x8 x12 xs0 xs1 mu = some mE) : W p l e (rmN 6 0 0) s m args below meth c H locs 0 0 (MQ below (XQ D E (Am m0) (none) mE (mT mE = mT m0 ∧ True)) args s 0 0 (Am m0)) (F0 m 154 ls [.int xs0, .int xs1]) := by
  have hx := C.1
  have hb := C.2.1
  unfold f_X10_goes_j154 at hf
  refine lv_iadd hx hb dX10_goes_154 ?_
  refine lv_topi (fun x125 ex125 => ?_)
  have hf := nm_el hf ex125
  refine lv_istore (lv' := [(10, .int x125), (0, .ref a0), (1, .int x1), (2, .int x2), (4, .int x4), (5, .int x5), (6, .int x6), (8, .int x8), (12, .int x12)]) hx hb dX10_goes_155 hl (by decide) rfl (fun ls hl => ?_)
  refine lv_aload_n hx hb dX10_goes_157 rfl (lv_at hl 1 rfl) ?_
  refine lv_iload_n hx hb dX10_goes_158 rfl (lv_at hl 2 rfl) ?_
  refine lv_bipush hx hb dX10_goes_159 kb_7 ?_
  refine lv_iload hx hb dX10_goes_161 (lv_at hl 8 rfl) ?_
  refine lv_sipush hx hb dX10_goes_163 ks_1000 ?_
  refine lv_icmp_lt (tgt := 173) hx hb dX10_goes_166 (by decide) (fun c => ?_) (fun c => ?_)
  · have hf := ifp hf c
    refine lv_iload hx hb dX10_goes_173 (lv_at hl 8 rfl) ?_
    exact w_X10_goes_j175 C hr hk hnm ta0 ta0 (lv_sub hl [1, 2, 3, 4, 5, 6, 7, 0] rfl) hw hf
  · have hf := ifn hf c
    refine lv_iconst hx hb dX10_goes_169 ki_0 ?_
    refine lv_goto (tgt := 175) hx hb dX10_goes_170 (by decide) ?_
    exact w_X10_goes_j175 C hr hk hnm ta0 ta0 (lv_sub hl [1, 2, 3, 4, 5, 6, 7, 0] rfl) hw hf
set_option maxHeartbeats 4000000 in
set_option maxRecDepth 100000 in
theorem w_X10_goes_j93 {p : Program} {l : Launch} {e : Env} {s : State} {m : MethodId} {args : Array Value} {below : List Frame} {meth : Method} {c : Code} {D : va_G} {E : Nat → ClassId} {tU : Nat} {m0 mE : XMem} (C : Cx p s m args c cX10_goes 15 RX10 D E (Am m0) tU) (hr : meth.sig.returnType = ((Option.none : Option FieldType))) (hk : meth.locks = false) (hnm : meth.name = yX10_goes.name) {a0 : Nat} {x1 : Int32} {x2 : Int32} {x4 : Int32} {x5 : Int32} {x6 : Int32} {x8 : Int32} {xs0 : Int32} {xs1 : Int32} {xs2 : Int32} {as3 : Nat} {mu : XMem} {H : Heap} {locs : List Loc} {ls : Array Slot} (ta0 : mT m0 a0 = some (.inl 10)) (tas3 : mT m0 as3 = some (.inl 10)) (hl : lv_has ls 15 [(0, .ref a0), (1, .int x1), (2, .int x2), (4, .int x4), (5, .int x5), (6, .int x6), (8, .int x8)]) (hw : Wd D E (Am m0) s (mT m0) mu H locs) (hf : f_X10_goes_j93 a0 x1 x2 x4 x5 x6 x8 xs0 xs1 xs2 as3 mu = some mE) : W p l e (rmN 6 0 0) s m args below meth c H locs 0 0 (MQ below (XQ D E (Am m0) (none) mE (mT mE = mT m0 ∧ True)) args s 0 0 (Am m0)) (F0 m 93 ls [.int xs0, .int xs1, .int xs2, .ref as3]) := by
  have hx := C.1
  have hb := C.2.1
  unfold f_X10_goes_j93 at hf
  obtain ⟨m116, cm116, hf⟩ := b1_el (o := f_X10_puts as3 xs2 xs1 xs0 mu) hf
  refine x_callVv (As := [.int xs2, .int xs1, .int xs0]) (rest := []) C hl.1 hw cb_X10_72 cv_X10_puts (k_X10_puts hw.2.2.2.2 tas3 cm116) tas3 rfl rfl (by decide) ⟨Nat.le_refl _, Nat.le_refl _⟩ rfl (Nat.le_of_ble_eq_true rfl) dX10_goes_93 (fun H locs hw tm116 => ?_)
  refine lv_iload hx hb dX10_goes_96 (lv_at hl 5 rfl) ?_
  refine lv_iload hx hb dX10_goes_98 (lv_at hl 6 rfl) ?_
  refine lv_isub hx hb dX10_goes_100 ?_
  refine lv_topi (fun x117 ex117 => ?_)
  have hf := nm_el hf ex117
  refine lv_istore (lv' := [(10, .int x117), (0, .ref a0), (1, .int x1), (2, .int x2), (4, .int x4), (5, .int x5), (6, .int x6), (8, .int x8)]) hx hb dX10_goes_101 hl (by decide) rfl (fun ls hl => ?_)
  refine lv_aload_n hx hb dX10_goes_103 rfl (lv_at hl 1 rfl) ?_
  refine lv_iload_n hx hb dX10_goes_104 rfl (lv_at hl 2 rfl) ?_
  refine lv_iconst hx hb dX10_goes_105 ki_0 ?_
  obtain ⟨r119, m118, cm118, hf⟩ := b2_el (o := f_X10_ofCell a0 x1 0 m116) hf
  refine x_callVi (As := [.int x1, .int 0]) (rest := []) C hl.1 hw cb_X10_80 cv_X10_ofCell (k_X10_ofCell hw.2.2.2.2 ta0 cm118) ta0 rfl rfl (by decide) ⟨Nat.le_refl _, Nat.le_refl _⟩ rfl (Nat.le_of_ble_eq_true rfl) dX10_goes_106 (fun H locs hw tr119 => ?_)
  refine lv_iconst hx hb dX10_goes_109 ki_3 ?_
  refine lv_icmp_ne (tgt := 178) hx hb dX10_goes_110 (by decide) (fun c => ?_) (fun c => ?_)
  · have hf := ifn hf c
    exact w_X10_goes_j178 C hr hk hnm ta0 (lv_sub hl [1, 2, 3, 4, 5, 6, 7, 0] rfl) hw hf
  · have hf := ifp hf c
    refine lv_iload hx hb dX10_goes_113 (lv_at hl 0 rfl) ?_
    refine lv_iconst hx hb dX10_goes_115 ki_5 ?_
    refine lv_idiv hx hb dX10_goes_116 (by decide) ?_
    refine lv_topi (fun x120 ex120 => ?_)
    have hf := nm_el hf ex120
    refine lv_istore (lv' := [(11, .int x120), (10, .int x117), (0, .ref a0), (1, .int x1), (2, .int x2), (4, .int x4), (5, .int x5), (6, .int x6), (8, .int x8)]) hx hb dX10_goes_117 hl (by decide) rfl (fun ls hl => ?_)
    refine lv_iload hx hb dX10_goes_119 (lv_at hl 1 rfl) ?_
    refine lv_iload hx hb dX10_goes_121 (lv_at hl 0 rfl) ?_
    refine lv_isub hx hb dX10_goes_123 ?_
    refine lv_topi (fun x121 ex121 => ?_)
    have hf := nm_el hf ex121
    refine lv_istore (lv' := [(10, .int x121), (11, .int x120), (0, .ref a0), (1, .int x1), (2, .int x2), (4, .int x4), (5, .int x5), (6, .int x6), (8, .int x8)]) hx hb dX10_goes_124 hl (by decide) rfl (fun ls hl => ?_)
    refine lv_aload_n hx hb dX10_goes_126 rfl (lv_at hl 2 rfl) ?_
    refine lv_iload_n hx hb dX10_goes_127 rfl (lv_at hl 3 rfl) ?_
    refine lv_bipush hx hb dX10_goes_128 kb_7 ?_
    obtain ⟨r123, m122, cm122, hf⟩ := b2_el (o := f_X10_ofCell a0 x1 7 m118) hf
    refine x_callVi (As := [.int x1, .int 7]) (rest := []) C hl.1 hw cb_X10_80 cv_X10_ofCell (k_X10_ofCell hw.2.2.2.2 ta0 cm122) ta0 rfl rfl (by decide) ⟨Nat.le_refl _, Nat.le_refl _⟩ rfl (Nat.le_of_ble_eq_true rfl) dX10_goes_130 (fun H locs hw tr123 => ?_)
    refine lv_iload hx hb dX10_goes_133 (lv_at hl 1 rfl) ?_
    refine lv_iadd hx hb dX10_goes_135 ?_
    refine lv_topi (fun x124 ex124 => ?_)
    have hf := nm_el hf ex124
    refine lv_istore (lv' := [(12, .int x124), (10, .int x121), (11, .int x120), (0, .ref a0), (1, .int x1), (2, .int x2), (4, .int x4), (5, .int x5), (6, .int x6), (8, .int x8)]) hx hb dX10_goes_136 hl (by decide) rfl (fun ls hl => ?_)
    refine lv_iload hx hb dX10_goes_138 (lv_at hl 1 rfl) ?_
    refine lv_iload hx hb dX10_goes_140 (lv_at hl 0 rfl) ?_
    refine lv_sipush hx hb dX10_goes_142 ks_1000 ?_
    refine lv_icmp_lt (tgt := 153) hx hb dX10_goes_145 (by decide) (fun c => ?_) (fun c => ?_)
    · have hf := ifp hf c
      refine lv_iconst hx hb dX10_goes_153 ki_0 ?_
      exact w_X10_goes_j154 C hr hk hnm ta0 (lv_sub hl [3, 4, 5, 6, 7, 8, 9, 0] rfl) hw hf
    · have hf := ifn hf c
      refine lv_iload hx hb dX10_goes_148 (lv_at hl 0 rfl) ?_
      refine lv_goto (tgt := 154) hx hb dX10_goes_150 (by decide) ?_
      exact w_X10_goes_j154 C hr hk hnm ta0 (lv_sub hl [3, 4, 5, 6, 7, 8, 9, 0] rfl) hw hf
set_option maxHeartbeats 4000000 in
set_option maxRecDepth 100000 in
theorem w_X10_goes_j27 {p : Program} {l : Launch} {e : Env} {s : State} {m : MethodId} {args : Array Value} {below : List Frame} {meth : Method} {c : Code} {D : va_G} {E : Nat → ClassId} {tU : Nat} {m0 mE : XMem} (C : Cx p s m args c cX10_goes 15 RX10 D E (Am m0) tU) (hr : meth.sig.returnType = ((Option.none : Option FieldType))) (hk : meth.locks = false) (hnm : meth.name = yX10_goes.name) {a0 : Nat} {x1 : Int32} {x2 : Int32} {x4 : Int32} {xs0 : Int32} {mu : XMem} {H : Heap} {locs : List Loc} {ls : Array Slot} (ta0 : mT m0 a0 = some (.inl 10)) (hl : lv_has ls 15 [(0, .ref a0), (1, .int x1), (2, .int x2), (4, .int x4)]) (hw : Wd D E (Am m0) s (mT m0) mu H locs) (hf : f_X10_goes_j27 a0 x1 x2 x4 xs0 mu = some mE) : W p l e (rmN 6 0 0) s m args below meth c H locs 0 0 (MQ below (XQ D E (Am m0) (none) mE (mT mE = mT m0 ∧ True)) args s 0 0 (Am m0)) (F0 m 27 ls [.int xs0]) := by
  have hx := C.1
  have hb := C.2.1
  unfold f_X10_goes_j27 at hf
  refine lv_istore (lv' := [(5, .int xs0), (0, .ref a0), (1, .int x1), (2, .int x2), (4, .int x4)]) hx hb dX10_goes_27 hl (by decide) rfl (fun ls hl => ?_)
  refine lv_aload_n hx hb dX10_goes_29 rfl (lv_at hl 1 rfl) ?_
  refine lv_iload_n hx hb dX10_goes_30 rfl (lv_at hl 2 rfl) ?_
  obtain ⟨r106, m105, cm105, hf⟩ := b2_el (o := f_X10_powerNow a0 x1 mu) hf
  refine x_callVi (As := [.int x1]) (rest := []) C hl.1 hw cb_X10_94 cv_X10_powerNow (k_X10_powerNow hw.2.2.2.2 ta0 cm105) ta0 rfl rfl (by decide) ⟨Nat.le_refl _, Nat.le_refl _⟩ rfl (Nat.le_of_ble_eq_true rfl) dX10_goes_31 (fun H locs hw tr106 => ?_)
  refine lv_istore (lv' := [(6, .int r106), (5, .int xs0), (0, .ref a0), (1, .int x1), (2, .int x2), (4, .int x4)]) hx hb dX10_goes_34 hl (by decide) rfl (fun ls hl => ?_)
  refine lv_iload hx hb dX10_goes_36 (lv_at hl 0 rfl) ?_
  refine lv_aload_n hx hb dX10_goes_38 rfl (lv_at hl 2 rfl) ?_
  refine lv_iload_n hx hb dX10_goes_39 rfl (lv_at hl 3 rfl) ?_
  refine lv_iconst hx hb dX10_goes_40 ki_4 ?_
  obtain ⟨r108, m107, cm107, hf⟩ := b2_el (o := f_X10_ofCell a0 x1 4 m105) hf
  refine x_callVi (As := [.int x1, .int 4]) (rest := [.int r106]) C hl.1 hw cb_X10_80 cv_X10_ofCell (k_X10_ofCell hw.2.2.2.2 ta0 cm107) ta0 rfl rfl (by decide) ⟨Nat.le_refl _, Nat.le_refl _⟩ rfl (Nat.le_of_ble_eq_true rfl) dX10_goes_41 (fun H locs hw tr108 => ?_)
  refine lv_imul hx hb dX10_goes_44 ?_
  refine lv_bipush hx hb dX10_goes_45 kb_100 ?_
  refine lv_idiv hx hb dX10_goes_47 (by decide) ?_
  refine lv_topi (fun x109 ex109 => ?_)
  have hf := nm_el hf ex109
  refine lv_istore (lv' := [(7, .int x109), (6, .int r106), (5, .int xs0), (0, .ref a0), (1, .int x1), (2, .int x2), (4, .int x4)]) hx hb dX10_goes_48 hl (by decide) rfl (fun ls hl => ?_)
  refine lv_iload hx hb dX10_goes_50 (lv_at hl 0 rfl) ?_
  refine lv_aload_n hx hb dX10_goes_52 rfl (lv_at hl 3 rfl) ?_
  refine lv_iload_n hx hb dX10_goes_53 rfl (lv_at hl 4 rfl) ?_
  refine lv_iload hx hb dX10_goes_54 (lv_at hl 0 rfl) ?_
  obtain ⟨r111, m110, cm110, hf⟩ := b2_el (o := f_X10_backOf a0 x1 x109 m107) hf
  refine x_callVi (As := [.int x1, .int x109]) (rest := [.int x109]) C hl.1 hw cb_X10_97 cv_X10_backOf (k_X10_backOf hw.2.2.2.2 ta0 cm110) ta0 rfl rfl (by decide) ⟨Nat.le_refl _, Nat.le_refl _⟩ rfl (Nat.le_of_ble_eq_true rfl) dX10_goes_56 (fun H locs hw tr111 => ?_)
  refine lv_isub hx hb dX10_goes_59 ?_
  refine lv_topi (fun x112 ex112 => ?_)
  have hf := nm_el hf ex112
  refine lv_istore (lv' := [(8, .int x112), (7, .int x109), (6, .int r106), (5, .int xs0), (0, .ref a0), (1, .int x1), (2, .int x2), (4, .int x4)]) hx hb dX10_goes_60 hl (by decide) rfl (fun ls hl => ?_)
  refine lv_aload_n hx hb dX10_goes_62 rfl (lv_at hl 4 rfl) ?_
  refine lv_iload_n hx hb dX10_goes_63 rfl (lv_at hl 5 rfl) ?_
  refine lv_iconst hx hb dX10_goes_64 ki_5 ?_
  obtain ⟨r114, m113, cm113, hf⟩ := b2_el (o := f_X10_ofCell a0 x1 5 m110) hf
  refine x_callVi (As := [.int x1, .int 5]) (rest := []) C hl.1 hw cb_X10_80 cv_X10_ofCell (k_X10_ofCell hw.2.2.2.2 ta0 cm113) ta0 rfl rfl (by decide) ⟨Nat.le_refl _, Nat.le_refl _⟩ rfl (Nat.le_of_ble_eq_true rfl) dX10_goes_65 (fun H locs hw tr114 => ?_)
  refine lv_iload hx hb dX10_goes_68 (lv_at hl 1 rfl) ?_
  refine lv_bipush hx hb dX10_goes_70 kb_99 ?_
  refine lv_iadd hx hb dX10_goes_72 ?_
  refine lv_bipush hx hb dX10_goes_73 kb_100 ?_
  refine lv_idiv hx hb dX10_goes_75 (by decide) ?_
  refine lv_isub hx hb dX10_goes_76 ?_
  refine lv_topi (fun x115 ex115 => ?_)
  have hf := nm_el hf ex115
  refine lv_istore (lv' := [(9, .int x115), (8, .int x112), (7, .int x109), (6, .int r106), (5, .int xs0), (0, .ref a0), (1, .int x1), (2, .int x2), (4, .int x4)]) hx hb dX10_goes_77 hl (by decide) rfl (fun ls hl => ?_)
  refine lv_aload_n hx hb dX10_goes_79 rfl (lv_at hl 5 rfl) ?_
  refine lv_iload_n hx hb dX10_goes_80 rfl (lv_at hl 6 rfl) ?_
  refine lv_iconst hx hb dX10_goes_81 ki_5 ?_
  refine lv_iload hx hb dX10_goes_82 (lv_at hl 0 rfl) ?_
  refine lv_if_ge (tgt := 91) hx hb dX10_goes_84 (by decide) (fun c => ?_) (fun c => ?_)
  · have hf := ifp hf c
    refine lv_iload hx hb dX10_goes_91 (lv_at hl 0 rfl) ?_
    exact w_X10_goes_j93 C hr hk hnm ta0 ta0 (lv_sub hl [5, 6, 7, 8, 4, 3, 1] rfl) hw hf
  · have hf := ifn hf c
    refine lv_iconst hx hb dX10_goes_87 ki_0 ?_
    refine lv_goto (tgt := 93) hx hb dX10_goes_88 (by decide) ?_
    exact w_X10_goes_j93 C hr hk hnm ta0 ta0 (lv_sub hl [5, 6, 7, 8, 4, 3, 1] rfl) hw hf
set_option maxHeartbeats 4000000 in
set_option maxRecDepth 100000 in
theorem k_X10_goes {l : Launch} {D : va_G} {E : Nat → ClassId} {tU : Nat} {τ : Nat → Option XTy} {a0 : Nat} {x1 : Int32} {x2 : Int32} {x3 : Int32} {x4 : Int32} {m0 mE : XMem} (hm : mT m0 = τ) (ta0 : τ a0 = some (.inl 10)) (hf : f_X10_goes a0 x1 x2 x3 x4 m0 = some mE) : Ct l yX10_goes cX10_goes 15 ((Option.none : Option FieldType)) 6 0 0 D E tU [.ref a0, .int x1, .int x2, .int x3, .int x4] m0 (none) mE (mT mE = mT m0 ∧ True) := by
  subst hm
  refine Ct.of (by decide) (Nat.le_of_ble_eq_true rfl) (fun p e s m below meth c ls C hr hk hnm hl hw => ?_)
  have hx := C.1
  have hb := C.2.1
  have hl : lv_has ls 15 [(0, .ref a0), (1, .int x1), (2, .int x2), (3, .int x3), (4, .int x4)] := hl
  unfold f_X10_goes at hf
  refine lv_iload_n hx hb dX10_goes_0 rfl (lv_at hl 3 rfl) ?_
  refine lv_if_lt (tgt := 8) hx hb dX10_goes_1 (by decide) (fun c => ?_) (fun c => ?_)
  · have hf := ifp hf c
    refine lv_iload_n hx hb dX10_goes_8 rfl (lv_at hl 2 rfl) ?_
    refine lv_if_ge (tgt := 16) hx hb dX10_goes_9 (by decide) (fun c => ?_) (fun c => ?_)
    · have hf := ifp hf c
      refine lv_aload_n hx hb dX10_goes_16 rfl (lv_at hl 0 rfl) ?_
      refine lv_iload_n hx hb dX10_goes_17 rfl (lv_at hl 2 rfl) ?_
      refine lv_iload_n hx hb dX10_goes_18 rfl (lv_at hl 1 rfl) ?_
      refine lv_iload hx hb dX10_goes_19 (lv_at hl 4 rfl) ?_
      obtain ⟨r102, m101, cm101, hf⟩ := b2_el (o := f_X10_worked a0 x2 x1 x4 m0) hf
      refine x_callVi (As := [.int x2, .int x1, .int x4]) (rest := []) C hl.1 hw cb_X10_87 cv_X10_worked (k_X10_worked hw.2.2.2.2 ta0 cm101) ta0 rfl rfl (by decide) ⟨Nat.le_refl _, Nat.le_refl _⟩ rfl (Nat.le_of_ble_eq_true rfl) dX10_goes_21 (fun H locs hw tr102 => ?_)
      obtain ⟨r104, m103, cm103, hf⟩ := b2_el (o := f_X10_held r102 m101) hf
      refine x_callSi (As := [.int r102]) (rest := []) C hl.1 hw cb_X10_91 cs_X10_held (k_X10_held hw.2.2.2.2  cm103) rfl (by decide) ⟨Nat.le_refl _, Nat.le_refl _⟩ rfl (Nat.le_of_ble_eq_true rfl) dX10_goes_24 (fun H locs hw tr104 => ?_)
      exact w_X10_goes_j27 C hr hk hnm ta0 (lv_sub hl [0, 1, 2, 4] rfl) hw hf
    · have hf := ifn hf c
      refine lv_iconst hx hb dX10_goes_12 ki_0 ?_
      refine lv_goto (tgt := 27) hx hb dX10_goes_13 (by decide) ?_
      exact w_X10_goes_j27 C hr hk hnm ta0 (lv_sub hl [0, 1, 2, 4] rfl) hw hf
  · have hf := ifn hf c
    refine lv_iload_n hx hb dX10_goes_4 rfl (lv_at hl 3 rfl) ?_
    refine lv_goto (tgt := 27) hx hb dX10_goes_5 (by decide) ?_
    exact w_X10_goes_j27 C hr hk hnm ta0 (lv_sub hl [0, 1, 2, 4] rfl) hw hf
set_option maxHeartbeats 4000000 in
set_option maxRecDepth 100000 in
theorem w_X10_go_h3 {p : Program} {l : Launch} {e : Env} {s : State} {m : MethodId} {args : Array Value} {below : List Frame} {meth : Method} {c : Code} {D : va_G} {E : Nat → ClassId} {tU : Nat} {m0 mE : XMem} (C : Cx p s m args c cX10_go 6 RX10 D E (Am m0) tU) (hr : meth.sig.returnType = ((Option.none : Option FieldType))) (hk : meth.locks = false) (hnm : meth.name = yX10_go.name) {a0 : Nat} {x1 : Int32} {x2 : Int32} {x3 : Int32} {x4 : Int32} (ta0 : mT m0 a0 = some (.inl 10)) {k32 :  XMem → Option (XMem)} (hk32 : ∀  (mu : XMem) (H : Heap) (locs : List Loc) (ls : Array Slot), lv_has ls 6 [] → Wd D E (Am m0) s (mT m0) mu H locs →   k32  mu = some mE → W p l e (rmN 7 0 0) s m args below meth c H locs 0 0 (MQ below (XQ D E (Am m0) (none) mE (mT mE = mT m0 ∧ True)) args s 0 0 (Am m0)) (F0 m 32 ls [])) : ∀ (n : Nat) (x5 : Int32) (mu : XMem) (H : Heap) (locs : List Loc) (ls : Array Slot), lv_has ls 6 [(0, .ref a0), (1, .int x1), (2, .int x2), (3, .int x3), (4, .int x4), (5, .int x5)] → Wd D E (Am m0) s (mT m0) mu H locs → f_X10_go_h3 a0 x1 x2 x3 x4 k32 n x5 mu = some mE → W p l e (rmN 7 0 0) s m args below meth c H locs 0 0 (MQ below (XQ D E (Am m0) (none) mE (mT mE = mT m0 ∧ True)) args s 0 0 (Am m0)) (F0 m 3 ls []) := by
  have hx := C.1
  have hb := C.2.1
  intro n
  induction n with
  | zero =>
    intros
    rename_i hf
    cases hf
  | succ n ih =>
    intro x5 mu H locs ls hl hw hf
    rw [f_X10_go_h3] at hf
    refine lv_iload hx hb dX10_go_3 (lv_at hl 5 rfl) ?_
    refine lv_iload hx hb dX10_go_5 (lv_at hl 4 rfl) ?_
    refine lv_icmp_ge (tgt := 32) hx hb dX10_go_7 (by decide) (fun c => ?_) (fun c => ?_)
    · have hf := ifp hf c
      exact hk32 _ _ _ _ (lv_sub hl [] rfl) hw hf
    · have hf := ifn hf c
      refine lv_aload_n hx hb dX10_go_10 rfl (lv_at hl 0 rfl) ?_
      refine lv_iload_n hx hb dX10_go_11 rfl (lv_at hl 1 rfl) ?_
      refine lv_iload_n hx hb dX10_go_12 rfl (lv_at hl 2 rfl) ?_
      refine lv_iload_n hx hb dX10_go_13 rfl (lv_at hl 3 rfl) ?_
      refine lv_aload_n hx hb dX10_go_14 rfl (lv_at hl 0 rfl) ?_
      obtain ⟨b102, eb102, hf⟩ := fo_el hf
      refine x_getR C hw fa_X10_7 (Or.inr ⟨_, rfl⟩) ta0 eb102 dX10_go_15 (fun tb102 => ?_)
      have tb102 : ∃ n, (mT m0) b102 = some (.inr (0, n)) := tb102
      refine lv_iconst hx hb dX10_go_18 ki_0 ?_
      obtain ⟨g103, hf⟩ := gd_el hf
      refine x_iald C hw tb102 g103 dX10_go_19 ?_
      refine lv_iload hx hb dX10_go_20 (lv_at hl 5 rfl) ?_
      refine lv_iadd hx hb dX10_go_22 ?_
      obtain ⟨m104, cm104, hf⟩ := b1_el (o := f_X10_goes a0 x1 x2 x3 ((mI mu b102 (Int32.toNatClampNeg 0)) + x5) mu) hf
      refine x_callVv (As := [.int x1, .int x2, .int x3, .int ((mI mu b102 (Int32.toNatClampNeg 0)) + x5)]) (rest := []) C hl.1 hw cb_X10_103 cv_X10_goes (k_X10_goes hw.2.2.2.2 ta0 cm104) ta0 rfl rfl (by decide) ⟨Nat.le_refl _, Nat.le_refl _⟩ rfl (Nat.le_of_ble_eq_true rfl) dX10_go_23 (fun H locs hw tm104 => ?_)
      obtain ⟨x105, ex105⟩ : ∃ z : Int32, z = x5 + 1 := ⟨_, rfl⟩
      have hf := nm_el hf ex105
      refine lv_iinc (v := x105) (lv' := [(5, .int x105), (0, .ref a0), (1, .int x1), (2, .int x2), (3, .int x3), (4, .int x4)]) hx hb dX10_go_26 hl (k := 5) rfl (by rw [ex105, ki_1]) (by decide) rfl (fun ls hl => ?_)
      refine lv_goto (tgt := 3) hx hb dX10_go_29 (by decide) ?_
      exact ih _ _ _ _ _ (lv_sub hl [1, 2, 3, 4, 5, 0] rfl) hw hf
set_option maxHeartbeats 4000000 in
set_option maxRecDepth 100000 in
theorem k_X10_go {l : Launch} {D : va_G} {E : Nat → ClassId} {tU : Nat} {τ : Nat → Option XTy} {a0 : Nat} {x1 : Int32} {x2 : Int32} {x3 : Int32} {x4 : Int32} {m0 mE : XMem} (hm : mT m0 = τ) (ta0 : τ a0 = some (.inl 10)) (hf : f_X10_go a0 x1 x2 x3 x4 m0 = some mE) : Ct l yX10_go cX10_go 6 ((Option.none : Option FieldType)) 7 0 0 D E tU [.ref a0, .int x1, .int x2, .int x3, .int x4] m0 (none) mE (mT mE = mT m0 ∧ True) := by
  subst hm
  refine Ct.of (by decide) (Nat.le_of_ble_eq_true rfl) (fun p e s m below meth c ls C hr hk hnm hl hw => ?_)
  have hx := C.1
  have hb := C.2.1
  have hl : lv_has ls 6 [(0, .ref a0), (1, .int x1), (2, .int x2), (3, .int x3), (4, .int x4)] := hl
  unfold f_X10_go at hf
  refine lv_iconst hx hb dX10_go_0 ki_0 ?_
  refine lv_istore (lv' := [(5, .int 0), (0, .ref a0), (1, .int x1), (2, .int x2), (3, .int x3), (4, .int x4)]) hx hb dX10_go_1 hl (by decide) rfl (fun ls hl => ?_)
  refine w_X10_go_h3 C hr hk hnm ta0 ?_ 2000 _ _ _ _ _ (lv_sub hl [1, 2, 3, 4, 5, 0] rfl) hw hf
  intro m101 H locs ls hl hw hf
  exact x_ret C hr hk hw  hf (by decide) (by decide) dX10_go_32
set_option maxHeartbeats 4000000 in
set_option maxRecDepth 100000 in
theorem k_X10_seen {l : Launch} {D : va_G} {E : Nat → ClassId} {tU : Nat} {τ : Nat → Option XTy} {a0 : Nat} {x1 : Int32} {x2 : Int32} {m0 mE : XMem} {rE : Int32} (hm : mT m0 = τ) (ta0 : τ a0 = some (.inl 10)) (hf : f_X10_seen a0 x1 x2 m0 = some (rE, mE)) : Ct l yX10_seen cX10_seen 3 ((Option.some FieldType.int)) 4 0 0 D E tU [.ref a0, .int x1, .int x2] m0 (some (.int rE)) mE (mT mE = mT m0 ∧ True) := by
  subst hm
  refine Ct.of (by decide) (Nat.le_of_ble_eq_true rfl) (fun p e s m below meth c ls C hr hk hnm hl hw => ?_)
  have hx := C.1
  have hb := C.2.1
  have hl : lv_has ls 3 [(0, .ref a0), (1, .int x1), (2, .int x2)] := hl
  unfold f_X10_seen at hf
  refine lv_iload_n hx hb dX10_seen_0 rfl (lv_at hl 2 rfl) ?_
  by_cases c101 : x2 = 0
  · have hf := ifp hf c101
    refine lv_tableIn (off := 31) (tgt := 32) hx hb dX10_seen_1 (by rw [c101]; decide) (by rw [c101]; decide) (by rw [c101]; try rfl) (by decide) ?_
    refine lv_aload_n hx hb dX10_seen_32 rfl (lv_at hl 0 rfl) ?_
    refine lv_iload_n hx hb dX10_seen_33 rfl (lv_at hl 1 rfl) ?_
    refine lv_bipush hx hb dX10_seen_34 kb_6 ?_
    obtain ⟨r103, m102, cm102, hf⟩ := b2_el (o := f_X10_ofCell a0 x1 6 m0) hf
    refine x_callVi (As := [.int x1, .int 6]) (rest := []) C hl.1 hw cb_X10_80 cv_X10_ofCell (k_X10_ofCell hw.2.2.2.2 ta0 cm102) ta0 rfl rfl (by decide) ⟨Nat.le_refl _, Nat.le_refl _⟩ rfl (Nat.le_of_ble_eq_true rfl) dX10_seen_36 (fun H locs hw tr103 => ?_)
    exact x_retI C hr hk hw  hf (by decide) (by decide) dX10_seen_39
  · have hf := ifn hf c101
    by_cases c104 : x2 = 1
    · have hf := ifp hf c104
      refine lv_tableIn (off := 39) (tgt := 40) hx hb dX10_seen_1 (by rw [c104]; decide) (by rw [c104]; decide) (by rw [c104]; try rfl) (by decide) ?_
      refine lv_aload_n hx hb dX10_seen_40 rfl (lv_at hl 0 rfl) ?_
      refine lv_iload_n hx hb dX10_seen_41 rfl (lv_at hl 1 rfl) ?_
      obtain ⟨r106, m105, cm105, hf⟩ := b2_el (o := f_X10_readOf a0 x1 m0) hf
      refine x_callVi (As := [.int x1]) (rest := []) C hl.1 hw cb_X10_115 cv_X10_readOf (k_X10_readOf hw.2.2.2.2 ta0 cm105) ta0 rfl rfl (by decide) ⟨Nat.le_refl _, Nat.le_refl _⟩ rfl (Nat.le_of_ble_eq_true rfl) dX10_seen_42 (fun H locs hw tr106 => ?_)
      exact x_retI C hr hk hw  hf (by decide) (by decide) dX10_seen_45
    · have hf := ifn hf c104
      by_cases c107 : x2 = 2
      · have hf := ifp hf c107
        refine lv_tableIn (off := 45) (tgt := 46) hx hb dX10_seen_1 (by rw [c107]; decide) (by rw [c107]; decide) (by rw [c107]; try rfl) (by decide) ?_
        refine lv_aload_n hx hb dX10_seen_46 rfl (lv_at hl 0 rfl) ?_
        refine lv_iload_n hx hb dX10_seen_47 rfl (lv_at hl 1 rfl) ?_
        refine lv_bipush hx hb dX10_seen_48 kb_12 ?_
        obtain ⟨r109, m108, cm108, hf⟩ := b2_el (o := f_X10_ofCell a0 x1 12 m0) hf
        refine x_callVi (As := [.int x1, .int 12]) (rest := []) C hl.1 hw cb_X10_80 cv_X10_ofCell (k_X10_ofCell hw.2.2.2.2 ta0 cm108) ta0 rfl rfl (by decide) ⟨Nat.le_refl _, Nat.le_refl _⟩ rfl (Nat.le_of_ble_eq_true rfl) dX10_seen_50 (fun H locs hw tr109 => ?_)
        exact x_retI C hr hk hw  hf (by decide) (by decide) dX10_seen_53
      · have hf := ifn hf c107
        by_cases c110 : x2 = 3
        · have hf := ifp hf c110
          refine lv_tableIn (off := 53) (tgt := 54) hx hb dX10_seen_1 (by rw [c110]; decide) (by rw [c110]; decide) (by rw [c110]; try rfl) (by decide) ?_
          refine lv_aload_n hx hb dX10_seen_54 rfl (lv_at hl 0 rfl) ?_
          refine lv_iload_n hx hb dX10_seen_55 rfl (lv_at hl 1 rfl) ?_
          refine lv_bipush hx hb dX10_seen_56 kb_7 ?_
          obtain ⟨r112, m111, cm111, hf⟩ := b2_el (o := f_X10_ofCell a0 x1 7 m0) hf
          refine x_callVi (As := [.int x1, .int 7]) (rest := []) C hl.1 hw cb_X10_80 cv_X10_ofCell (k_X10_ofCell hw.2.2.2.2 ta0 cm111) ta0 rfl rfl (by decide) ⟨Nat.le_refl _, Nat.le_refl _⟩ rfl (Nat.le_of_ble_eq_true rfl) dX10_seen_58 (fun H locs hw tr112 => ?_)
          exact x_retI C hr hk hw  hf (by decide) (by decide) dX10_seen_61
        · have hf := ifn hf c110
          refine lv_tableOut (tgt := 62) hx hb dX10_seen_1 (by
              have hc101 := sw_ne (a := 0) c101 (by decide)
              have hc104 := sw_ne (a := 1) c104 (by decide)
              have hc107 := sw_ne (a := 2) c107 (by decide)
              have hc110 := sw_ne (a := 3) c110 (by decide)
              omega) (by decide) ?_
          refine lv_aload_n hx hb dX10_seen_62 rfl (lv_at hl 0 rfl) ?_
          refine lv_iload_n hx hb dX10_seen_63 rfl (lv_at hl 1 rfl) ?_
          refine lv_iconst hx hb dX10_seen_64 ki_5 ?_
          obtain ⟨r114, m113, cm113, hf⟩ := b2_el (o := f_X10_ofCell a0 x1 5 m0) hf
          refine x_callVi (As := [.int x1, .int 5]) (rest := []) C hl.1 hw cb_X10_80 cv_X10_ofCell (k_X10_ofCell hw.2.2.2.2 ta0 cm113) ta0 rfl rfl (by decide) ⟨Nat.le_refl _, Nat.le_refl _⟩ rfl (Nat.le_of_ble_eq_true rfl) dX10_seen_65 (fun H locs hw tr114 => ?_)
          exact x_retI C hr hk hw  hf (by decide) (by decide) dX10_seen_68
set_option maxHeartbeats 4000000 in
set_option maxRecDepth 100000 in
theorem w_X10_brings_h2 {p : Program} {l : Launch} {e : Env} {s : State} {m : MethodId} {args : Array Value} {below : List Frame} {meth : Method} {c : Code} {D : va_G} {E : Nat → ClassId} {tU : Nat} {m0 mE : XMem} (C : Cx p s m args c cX10_brings 3 RX10 D E (Am m0) tU) (hr : meth.sig.returnType = ((Option.none : Option FieldType))) (hk : meth.locks = false) (hnm : meth.name = yX10_brings.name) {a0 : Nat} {x1 : Int32} (ta0 : mT m0 a0 = some (.inl 10)) {k26 :  XMem → Option (XMem)} (hk26 : ∀  (mu : XMem) (H : Heap) (locs : List Loc) (ls : Array Slot), lv_has ls 3 [] → Wd D E (Am m0) s (mT m0) mu H locs →   k26  mu = some mE → W p l e (rmN 2 0 0) s m args below meth c H locs 0 0 (MQ below (XQ D E (Am m0) (none) mE (mT mE = mT m0 ∧ True)) args s 0 0 (Am m0)) (F0 m 26 ls [])) : ∀ (n : Nat) (x2 : Int32) (mu : XMem) (H : Heap) (locs : List Loc) (ls : Array Slot), lv_has ls 3 [(0, .ref a0), (1, .int x1), (2, .int x2)] → Wd D E (Am m0) s (mT m0) mu H locs → f_X10_brings_h2 a0 x1 k26 n x2 mu = some mE → W p l e (rmN 2 0 0) s m args below meth c H locs 0 0 (MQ below (XQ D E (Am m0) (none) mE (mT mE = mT m0 ∧ True)) args s 0 0 (Am m0)) (F0 m 2 ls []) := by
  have hx := C.1
  have hb := C.2.1
  intro n
  induction n with
  | zero =>
    intros
    rename_i hf
    cases hf
  | succ n ih =>
    intro x2 mu H locs ls hl hw hf
    rw [f_X10_brings_h2] at hf
    refine lv_iload_n hx hb dX10_brings_2 rfl (lv_at hl 2 rfl) ?_
    refine lv_bipush hx hb dX10_brings_3 kb_17 ?_
    refine lv_icmp_ge (tgt := 26) hx hb dX10_brings_5 (by decide) (fun c => ?_) (fun c => ?_)
    · have hf := ifp hf c
      exact hk26 _ _ _ _ (lv_sub hl [] rfl) hw hf
    · have hf := ifn hf c
      refine lv_aload_n hx hb dX10_brings_8 rfl (lv_at hl 0 rfl) ?_
      refine lv_iload_n hx hb dX10_brings_9 rfl (lv_at hl 1 rfl) ?_
      refine lv_iload_n hx hb dX10_brings_10 rfl (lv_at hl 2 rfl) ?_
      refine lv_aload_n hx hb dX10_brings_11 rfl (lv_at hl 0 rfl) ?_
      obtain ⟨b102, eb102, hf⟩ := fo_el hf
      refine x_getR C hw fa_X10_43 (Or.inr ⟨_, rfl⟩) ta0 eb102 dX10_brings_12 (fun tb102 => ?_)
      have tb102 : ∃ n, (mT m0) b102 = some (.inr (0, n)) := tb102
      refine lv_iload_n hx hb dX10_brings_15 rfl (lv_at hl 2 rfl) ?_
      obtain ⟨g103, hf⟩ := gd_el hf
      refine x_iald C hw tb102 g103 dX10_brings_16 ?_
      obtain ⟨m104, cm104, hf⟩ := b1_el (o := f_X10_puts a0 x1 x2 (mI mu b102 (Int32.toNatClampNeg x2)) mu) hf
      refine x_callVv (As := [.int x1, .int x2, .int (mI mu b102 (Int32.toNatClampNeg x2))]) (rest := []) C hl.1 hw cb_X10_72 cv_X10_puts (k_X10_puts hw.2.2.2.2 ta0 cm104) ta0 rfl rfl (by decide) ⟨Nat.le_refl _, Nat.le_refl _⟩ rfl (Nat.le_of_ble_eq_true rfl) dX10_brings_17 (fun H locs hw tm104 => ?_)
      obtain ⟨x105, ex105⟩ : ∃ z : Int32, z = x2 + 1 := ⟨_, rfl⟩
      have hf := nm_el hf ex105
      refine lv_iinc (v := x105) (lv' := [(2, .int x105), (0, .ref a0), (1, .int x1)]) hx hb dX10_brings_20 hl (k := 2) rfl (by rw [ex105, ki_1]) (by decide) rfl (fun ls hl => ?_)
      refine lv_goto (tgt := 2) hx hb dX10_brings_23 (by decide) ?_
      exact ih _ _ _ _ _ (lv_sub hl [1, 2, 0] rfl) hw hf
set_option maxHeartbeats 4000000 in
set_option maxRecDepth 100000 in
theorem k_X10_brings {l : Launch} {D : va_G} {E : Nat → ClassId} {tU : Nat} {τ : Nat → Option XTy} {a0 : Nat} {x1 : Int32} {m0 mE : XMem} (hm : mT m0 = τ) (ta0 : τ a0 = some (.inl 10)) (hf : f_X10_brings a0 x1 m0 = some mE) : Ct l yX10_brings cX10_brings 3 ((Option.none : Option FieldType)) 2 0 0 D E tU [.ref a0, .int x1] m0 (none) mE (mT mE = mT m0 ∧ True) := by
  subst hm
  refine Ct.of (by decide) (Nat.le_of_ble_eq_true rfl) (fun p e s m below meth c ls C hr hk hnm hl hw => ?_)
  have hx := C.1
  have hb := C.2.1
  have hl : lv_has ls 3 [(0, .ref a0), (1, .int x1)] := hl
  unfold f_X10_brings at hf
  refine lv_iconst hx hb dX10_brings_0 ki_0 ?_
  refine lv_istore_n (lv' := [(2, .int 0), (0, .ref a0), (1, .int x1)]) hx hb dX10_brings_1 rfl hl (by decide) rfl (fun ls hl => ?_)
  refine w_X10_brings_h2 C hr hk hnm ta0 ?_ 2000 _ _ _ _ _ (lv_sub hl [1, 2, 0] rfl) hw hf
  intro m101 H locs ls hl hw hf
  exact x_ret C hr hk hw  hf (by decide) (by decide) dX10_brings_26
set_option maxHeartbeats 4000000 in
set_option maxRecDepth 100000 in
theorem k_X10_would {l : Launch} {D : va_G} {E : Nat → ClassId} {tU : Nat} {τ : Nat → Option XTy} {a0 : Nat} {x1 : Int32} {x2 : Int32} {x3 : Int32} {x4 : Int32} {m0 mE : XMem} {rE : Int32} (hm : mT m0 = τ) (ta0 : τ a0 = some (.inl 10)) (hf : f_X10_would a0 x1 x2 x3 x4 m0 = some (rE, mE)) : Ct l yX10_would cX10_would 6 ((Option.some FieldType.int)) 8 0 0 D E tU [.ref a0, .int x1, .int x2, .int x3, .int x4] m0 (some (.int rE)) mE (mT mE = mT m0 ∧ True) := by
  subst hm
  refine Ct.of (by decide) (Nat.le_of_ble_eq_true rfl) (fun p e s m below meth c ls C hr hk hnm hl hw => ?_)
  have hx := C.1
  have hb := C.2.1
  have hl : lv_has ls 6 [(0, .ref a0), (1, .int x1), (2, .int x2), (3, .int x3), (4, .int x4)] := hl
  unfold f_X10_would at hf
  refine lv_aload_n hx hb dX10_would_0 rfl (lv_at hl 0 rfl) ?_
  refine lv_iload_n hx hb dX10_would_1 rfl (lv_at hl 1 rfl) ?_
  obtain ⟨m101, cm101, hf⟩ := b1_el (o := f_X10_saves a0 x1 m0) hf
  refine x_callVv (As := [.int x1]) (rest := []) C hl.1 hw cb_X10_216 cv_X10_saves (k_X10_saves hw.2.2.2.2 ta0 cm101) ta0 rfl rfl (by decide) ⟨Nat.le_refl _, Nat.le_refl _⟩ rfl (Nat.le_of_ble_eq_true rfl) dX10_would_2 (fun H locs hw tm101 => ?_)
  refine lv_aload_n hx hb dX10_would_5 rfl (lv_at hl 0 rfl) ?_
  refine lv_iload_n hx hb dX10_would_6 rfl (lv_at hl 1 rfl) ?_
  refine lv_iload_n hx hb dX10_would_7 rfl (lv_at hl 2 rfl) ?_
  refine lv_iconst hx hb dX10_would_8 ki_m1 ?_
  refine lv_iload_n hx hb dX10_would_9 rfl (lv_at hl 3 rfl) ?_
  obtain ⟨m102, cm102, hf⟩ := b1_el (o := f_X10_go a0 x1 x2 (-1) x3 m101) hf
  refine x_callVv (As := [.int x1, .int x2, .int (-1), .int x3]) (rest := []) C hl.1 hw cb_X10_219 cv_X10_go (k_X10_go hw.2.2.2.2 ta0 cm102) ta0 rfl rfl (by decide) ⟨Nat.le_refl _, Nat.le_refl _⟩ rfl (Nat.le_of_ble_eq_true rfl) dX10_would_10 (fun H locs hw tm102 => ?_)
  refine lv_aload_n hx hb dX10_would_13 rfl (lv_at hl 0 rfl) ?_
  refine lv_iload_n hx hb dX10_would_14 rfl (lv_at hl 1 rfl) ?_
  refine lv_iload hx hb dX10_would_15 (lv_at hl 4 rfl) ?_
  obtain ⟨r104, m103, cm103, hf⟩ := b2_el (o := f_X10_seen a0 x1 x4 m102) hf
  refine x_callVi (As := [.int x1, .int x4]) (rest := []) C hl.1 hw cb_X10_222 cv_X10_seen (k_X10_seen hw.2.2.2.2 ta0 cm103) ta0 rfl rfl (by decide) ⟨Nat.le_refl _, Nat.le_refl _⟩ rfl (Nat.le_of_ble_eq_true rfl) dX10_would_17 (fun H locs hw tr104 => ?_)
  refine lv_istore (lv' := [(5, .int r104), (0, .ref a0), (1, .int x1), (2, .int x2), (3, .int x3), (4, .int x4)]) hx hb dX10_would_20 hl (by decide) rfl (fun ls hl => ?_)
  refine lv_aload_n hx hb dX10_would_22 rfl (lv_at hl 1 rfl) ?_
  refine lv_iload_n hx hb dX10_would_23 rfl (lv_at hl 2 rfl) ?_
  obtain ⟨m105, cm105, hf⟩ := b1_el (o := f_X10_brings a0 x1 m103) hf
  refine x_callVv (As := [.int x1]) (rest := []) C hl.1 hw cb_X10_225 cv_X10_brings (k_X10_brings hw.2.2.2.2 ta0 cm105) ta0 rfl rfl (by decide) ⟨Nat.le_refl _, Nat.le_refl _⟩ rfl (Nat.le_of_ble_eq_true rfl) dX10_would_24 (fun H locs hw tm105 => ?_)
  refine lv_iload hx hb dX10_would_27 (lv_at hl 0 rfl) ?_
  exact x_retI C hr hk hw  hf (by decide) (by decide) dX10_would_29
set_option maxHeartbeats 4000000 in
set_option maxRecDepth 100000 in
theorem k_X10_apart {l : Launch} {D : va_G} {E : Nat → ClassId} {tU : Nat} {τ : Nat → Option XTy} {a0 : Nat} {x1 : Int32} {x2 : Int32} {x3 : Int32} {x4 : Int32} {x5 : Int32} {m0 mE : XMem} {rE : Int64} (hm : mT m0 = τ) (ta0 : τ a0 = some (.inl 10)) (hf : f_X10_apart a0 x1 x2 x3 x4 x5 m0 = some (rE, mE)) : Ct l yX10_apart cX10_apart 8 ((Option.some FieldType.long)) 9 0 0 D E tU [.ref a0, .int x1, .int x2, .int x3, .int x4, .int x5] m0 (some (.long rE)) mE (mT mE = mT m0 ∧ True) := by
  subst hm
  refine Ct.of (by decide) (Nat.le_of_ble_eq_true rfl) (fun p e s m below meth c ls C hr hk hnm hl hw => ?_)
  have hx := C.1
  have hb := C.2.1
  have hl : lv_has ls 8 [(0, .ref a0), (1, .int x1), (2, .int x2), (3, .int x3), (4, .int x4), (5, .int x5)] := hl
  unfold f_X10_apart at hf
  refine lv_aload_n hx hb dX10_apart_0 rfl (lv_at hl 0 rfl) ?_
  refine lv_iload_n hx hb dX10_apart_1 rfl (lv_at hl 1 rfl) ?_
  refine lv_iload_n hx hb dX10_apart_2 rfl (lv_at hl 2 rfl) ?_
  refine lv_iload hx hb dX10_apart_3 (lv_at hl 4 rfl) ?_
  refine lv_iload hx hb dX10_apart_5 (lv_at hl 5 rfl) ?_
  obtain ⟨r102, m101, cm101, hf⟩ := b2_el (o := f_X10_would a0 x1 x2 x4 x5 m0) hf
  refine x_callVi (As := [.int x1, .int x2, .int x4, .int x5]) (rest := []) C hl.1 hw cb_X10_228 cv_X10_would (k_X10_would hw.2.2.2.2 ta0 cm101) ta0 rfl rfl (by decide) ⟨Nat.le_refl _, Nat.le_refl _⟩ rfl (Nat.le_of_ble_eq_true rfl) dX10_apart_7 (fun H locs hw tr102 => ?_)
  refine lv_i2l (v := (Int32.toInt64 r102)) hx hb dX10_apart_10 rfl ?_
  refine lv_aload_n hx hb dX10_apart_11 rfl (lv_at hl 0 rfl) ?_
  refine lv_iload_n hx hb dX10_apart_12 rfl (lv_at hl 1 rfl) ?_
  refine lv_iload_n hx hb dX10_apart_13 rfl (lv_at hl 3 rfl) ?_
  refine lv_iload hx hb dX10_apart_14 (lv_at hl 4 rfl) ?_
  refine lv_iload hx hb dX10_apart_16 (lv_at hl 5 rfl) ?_
  obtain ⟨r104, m103, cm103, hf⟩ := b2_el (o := f_X10_would a0 x1 x3 x4 x5 m101) hf
  refine x_callVi (As := [.int x1, .int x3, .int x4, .int x5]) (rest := [.long (Int32.toInt64 r102)]) C hl.1 hw cb_X10_228 cv_X10_would (k_X10_would hw.2.2.2.2 ta0 cm103) ta0 rfl rfl (by decide) ⟨Nat.le_refl _, Nat.le_refl _⟩ rfl (Nat.le_of_ble_eq_true rfl) dX10_apart_18 (fun H locs hw tr104 => ?_)
  refine lv_i2l (v := (Int32.toInt64 r104)) hx hb dX10_apart_21 rfl ?_
  refine lv_lsub hx hb dX10_apart_22 ?_
  refine lv_topl (fun l105 el105 => ?_)
  have hf := nm_el hf el105
  refine lv_lstore (lv' := [(6, .long l105), (0, .ref a0), (1, .int x1), (2, .int x2), (3, .int x3), (4, .int x4), (5, .int x5)]) hx hb dX10_apart_23 hl (by decide) rfl (fun ls hl => ?_)
  refine lv_lload hx hb dX10_apart_25 (lv_at hl 0 rfl) ?_
  refine lv_lconst hx hb dX10_apart_27 kl_0 ?_
  refine W.lcmp hx hb dX10_apart_28 ?_
  refine lv_if_ge (tgt := 38) hx hb dX10_apart_29 (by decide) (fun c => ?_) (fun c => ?_)
  · have hf := ifp hf c
    refine lv_lload hx hb dX10_apart_38 (lv_at hl 0 rfl) ?_
    exact x_retL C hr hk hw  hf (by decide) (by decide) dX10_apart_40
  · have hf := ifn hf c
    refine lv_lload hx hb dX10_apart_32 (lv_at hl 0 rfl) ?_
    refine lv_lneg hx hb dX10_apart_34 ?_
    refine lv_goto (tgt := 40) hx hb dX10_apart_35 (by decide) ?_
    exact x_retL C hr hk hw  hf (by decide) (by decide) dX10_apart_40
