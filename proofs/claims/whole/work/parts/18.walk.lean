set_option maxHeartbeats 4000000 in
set_option maxRecDepth 100000 in
theorem k_X8_raysOverFloor {l : Launch} {D : va_G} {E : Nat → ClassId} {tU : Nat} {τ : Nat → Option XTy} {a0 : Nat} {x1 : Int32} {x2 : Int32} {m0 mE : XMem} {rE : Int32} (hm : mT m0 = τ) (ta0 : τ a0 = some (.inl 8)) (hf : f_X8_raysOverFloor a0 x1 x2 m0 = some (rE, mE)) : Ct l yX8_raysOverFloor cX8_raysOverFloor 4 ((Option.some FieldType.int)) 2 0 0 D E tU [.ref a0, .int x1, .int x2] m0 (some (.int rE)) mE (mT mE = mT m0 ∧ True) := by
  subst hm
  refine Ct.of (by decide) (Nat.le_of_ble_eq_true rfl) (fun p e s m below meth c ls C hr hk hnm hl hw => ?_)
  have hx := C.1
  have hb := C.2.1
  have hl : lv_has ls 4 [(0, .ref a0), (1, .int x1), (2, .int x2)] := hl
  unfold f_X8_raysOverFloor at hf
  refine lv_aload_n hx hb dX8_raysOverFloor_0 rfl (lv_at hl 0 rfl) ?_
  refine lv_iload_n hx hb dX8_raysOverFloor_1 rfl (lv_at hl 2 rfl) ?_
  obtain ⟨o102, m101, cm101, hf⟩ := b2_el (o := f_X8_lawAt a0 x2 m0) hf
  have hmp := hw.2.2.2.2
  refine x_callVq (As := [.int x2]) (rest := []) C hl.1 hw cb_X8_69 cv_X8_lawAt (k_X8_lawAt hw.2.2.2.2 ta0 cm101) ta0 rfl rfl (by decide) ⟨Nat.le_refl _, Nat.le_refl _⟩ rfl (Nat.le_of_ble_eq_true rfl) dX8_raysOverFloor_2 (fun H locs hw to102 => ?_)
  have to102 : ∀ b, o102 = some b → (mT m0) b = some (.inl 2) := fun b h => by have q := to102 b h; rw [hmp] at q; exact q
  refine x_astore_nQ (lv' := [(3, va_rf o102), (0, .ref a0), (1, .int x1), (2, .int x2)]) hx hb dX8_raysOverFloor_5 rfl hl (by decide) rfl (fun ls hl => ?_)
  refine x_aload_nQ hx hb dX8_raysOverFloor_6 rfl (lv_at hl 0 rfl) ?_
  cases o102 with
  | none =>
    have hf := oc_n hf
    refine lv_ifnonnullN hx hb dX8_raysOverFloor_7 ?_
    refine lv_iconst hx hb dX8_raysOverFloor_10 ki_0 ?_
    refine lv_goto (tgt := 23) hx hb dX8_raysOverFloor_11 (by decide) ?_
    exact x_retI C hr hk hw  hf (by decide) (by decide) dX8_raysOverFloor_23
  | some b103 =>
    have hf := oc_s hf
    have tb103 := to102 b103 rfl
    refine lv_ifnonnull (tgt := 14) hx hb dX8_raysOverFloor_7 (by decide) ?_
    refine lv_iload_n hx hb dX8_raysOverFloor_14 rfl (lv_at hl 2 rfl) ?_
    refine lv_aload_n hx hb dX8_raysOverFloor_15 rfl (lv_at hl 0 rfl) ?_
    refine x_getI C hw fa_X8_103 tb103 dX8_raysOverFloor_16 ?_
    refine lv_imul hx hb dX8_raysOverFloor_19 ?_
    refine lv_bipush hx hb dX8_raysOverFloor_20 kb_100 ?_
    refine lv_idiv hx hb dX8_raysOverFloor_22 (by decide) ?_
    exact x_retI C hr hk hw  hf (by decide) (by decide) dX8_raysOverFloor_23
set_option maxHeartbeats 4000000 in
set_option maxRecDepth 100000 in
theorem k_X8_shine {l : Launch} {D : va_G} {E : Nat → ClassId} {tU : Nat} {τ : Nat → Option XTy} {a0 : Nat} {a1 : Nat} {x2 : Int32} {x3 : Int32} {x4 : Int32} {m0 mE : XMem} (hm : mT m0 = τ) (ta0 : τ a0 = some (.inl 8)) (ta1 : τ a1 = some (.inl 0)) (hf : f_X8_shine a0 a1 x2 x3 x4 m0 = some mE) : Ct l yX8_shine cX8_shine 5 ((Option.none : Option FieldType)) 5 0 0 D E tU [.ref a0, .ref a1, .int x2, .int x3, .int x4] m0 (none) mE (mT mE = mT m0 ∧ True) := by
  subst hm
  refine Ct.of (by decide) (Nat.le_of_ble_eq_true rfl) (fun p e s m below meth c ls C hr hk hnm hl hw => ?_)
  have hx := C.1
  have hb := C.2.1
  have hl : lv_has ls 5 [(0, .ref a0), (1, .ref a1), (2, .int x2), (3, .int x3), (4, .int x4)] := hl
  unfold f_X8_shine at hf
  refine lv_aload_n hx hb dX8_shine_0 rfl (lv_at hl 1 rfl) ?_
  refine lv_aload_n hx hb dX8_shine_1 rfl (lv_at hl 0 rfl) ?_
  refine lv_aload_n hx hb dX8_shine_2 rfl (lv_at hl 1 rfl) ?_
  refine lv_iload_n hx hb dX8_shine_3 rfl (lv_at hl 2 rfl) ?_
  refine lv_iload hx hb dX8_shine_4 (lv_at hl 4 rfl) ?_
  obtain ⟨r102, m101, cm101, hf⟩ := b2_el (o := f_X8_floorOf a0 a1 x2 x4 m0) hf
  refine x_callVi (As := [.ref a1, .int x2, .int x4]) (rest := [.ref a1]) C hl.1 hw cb_X8_114 cv_X8_floorOf (k_X8_floorOf hw.2.2.2.2 ta0 ta1 cm101) ta0 rfl rfl (by decide) ⟨Nat.le_refl _, Nat.le_refl _⟩ rfl (Nat.le_of_ble_eq_true rfl) dX8_shine_6 (fun H locs hw tr102 => ?_)
  refine lv_aload_n hx hb dX8_shine_9 rfl (lv_at hl 0 rfl) ?_
  refine lv_aload_n hx hb dX8_shine_10 rfl (lv_at hl 1 rfl) ?_
  refine x_getI C hw fa_X8_118 ta1 dX8_shine_11 ?_
  refine lv_iload_n hx hb dX8_shine_14 rfl (lv_at hl 3 rfl) ?_
  obtain ⟨r104, m103, cm103, hf⟩ := b2_el (o := f_X8_raysOverFloor a0 (mI m101 a1 10) x3 m101) hf
  refine x_callVi (As := [.int (mI m101 a1 10), .int x3]) (rest := [.int r102, .ref a1]) C hl.1 hw cb_X8_121 cv_X8_raysOverFloor (k_X8_raysOverFloor hw.2.2.2.2 ta0 cm103) ta0 rfl rfl (by decide) ⟨Nat.le_refl _, Nat.le_refl _⟩ rfl (Nat.le_of_ble_eq_true rfl) dX8_shine_15 (fun H locs hw tr104 => ?_)
  refine lv_iadd hx hb dX8_shine_18 ?_
  refine x_putI C hw fa_X8_124 ta1 dX8_shine_19 (fun m105 H locs em105 hw => ?_)
  have hf := nm_el hf em105
  exact x_ret C hr hk hw  hf (by decide) (by decide) dX8_shine_22
set_option maxHeartbeats 4000000 in
set_option maxRecDepth 100000 in
theorem w_X8_foretell_h3 {p : Program} {l : Launch} {e : Env} {s : State} {m : MethodId} {args : Array Value} {below : List Frame} {meth : Method} {c : Code} {D : va_G} {E : Nat → ClassId} {tU : Nat} {m0 mE : XMem} (C : Cx p s m args c cX8_foretell 6 RX8 D E (Am m0) tU) (hr : meth.sig.returnType = ((Option.none : Option FieldType))) (hk : meth.locks = false) (hnm : meth.name = yX8_foretell.name) {a0 : Nat} {a1 : Nat} {x2 : Int32} {x3 : Int32} {x4 : Int32} (ta0 : mT m0 a0 = some (.inl 8)) (ta1 : mT m0 a1 = some (.inl 0)) {k30 :  XMem → Option (XMem)} (hk30 : ∀  (mu : XMem) (H : Heap) (locs : List Loc) (ls : Array Slot), lv_has ls 6 [(0, .ref a0), (1, .ref a1), (2, .int x2), (3, .int x3), (4, .int x4)] → Wd D E (Am m0) s (mT m0) mu H locs →   k30  mu = some mE → W p l e (rmN 6 0 0) s m args below meth c H locs 0 0 (MQ below (XQ D E (Am m0) (none) mE (mT mE = mT m0 ∧ True)) args s 0 0 (Am m0)) (F0 m 30 ls [])) : ∀ (n : Nat) (x5 : Int32) (mu : XMem) (H : Heap) (locs : List Loc) (ls : Array Slot), lv_has ls 6 [(0, .ref a0), (1, .ref a1), (2, .int x2), (3, .int x3), (4, .int x4), (5, .int x5)] → Wd D E (Am m0) s (mT m0) mu H locs → f_X8_foretell_h3 a0 a1 x2 x3 x4 k30 n x5 mu = some mE → W p l e (rmN 6 0 0) s m args below meth c H locs 0 0 (MQ below (XQ D E (Am m0) (none) mE (mT mE = mT m0 ∧ True)) args s 0 0 (Am m0)) (F0 m 3 ls []) := by
  have hx := C.1
  have hb := C.2.1
  intro n
  induction n with
  | zero =>
    intros
    rename_i hf
    cases hf
  | succ n ih =>
    intro x5 mu H locs ls hl hw hf
    rw [f_X8_foretell_h3] at hf
    refine lv_iload hx hb dX8_foretell_3 (lv_at hl 5 rfl) ?_
    refine lv_iload hx hb dX8_foretell_5 (lv_at hl 4 rfl) ?_
    refine lv_icmp_ge (tgt := 30) hx hb dX8_foretell_7 (by decide) (fun c => ?_) (fun c => ?_)
    · have hf := ifp hf c
      exact hk30 _ _ _ _ (lv_sub hl [0, 1, 2, 3, 4] rfl) hw hf
    · have hf := ifn hf c
      refine lv_aload_n hx hb dX8_foretell_10 rfl (lv_at hl 0 rfl) ?_
      refine lv_aload_n hx hb dX8_foretell_11 rfl (lv_at hl 1 rfl) ?_
      refine lv_iload_n hx hb dX8_foretell_12 rfl (lv_at hl 2 rfl) ?_
      refine lv_iload_n hx hb dX8_foretell_13 rfl (lv_at hl 3 rfl) ?_
      refine lv_aload_n hx hb dX8_foretell_14 rfl (lv_at hl 0 rfl) ?_
      refine x_getI C hw fa_X8_9 ta0 dX8_foretell_15 ?_
      refine lv_iload hx hb dX8_foretell_18 (lv_at hl 5 rfl) ?_
      refine lv_iadd hx hb dX8_foretell_20 ?_
      obtain ⟨m103, cm103, hf⟩ := b1_el (o := f_X8_warm a0 a1 x2 x3 ((mI mu a0 0) + x5) mu) hf
      refine x_callVv (As := [.ref a1, .int x2, .int x3, .int ((mI mu a0 0) + x5)]) (rest := []) C hl.1 hw cb_X8_127 cv_X8_warm (k_X8_warm hw.2.2.2.2 ta0 ta1 cm103) ta0 rfl rfl (by decide) ⟨Nat.le_refl _, Nat.le_refl _⟩ rfl (Nat.le_of_ble_eq_true rfl) dX8_foretell_21 (fun H locs hw tm103 => ?_)
      obtain ⟨x104, ex104⟩ : ∃ z : Int32, z = x5 + 1 := ⟨_, rfl⟩
      have hf := nm_el hf ex104
      refine lv_iinc (v := x104) (lv' := [(5, .int x104), (0, .ref a0), (1, .ref a1), (2, .int x2), (3, .int x3), (4, .int x4)]) hx hb dX8_foretell_24 hl (k := 5) rfl (by rw [ex104, ki_1]) (by decide) rfl (fun ls hl => ?_)
      refine lv_goto (tgt := 3) hx hb dX8_foretell_27 (by decide) ?_
      exact ih _ _ _ _ _ (lv_sub hl [1, 2, 3, 4, 5, 0] rfl) hw hf
set_option maxHeartbeats 4000000 in
set_option maxRecDepth 100000 in
theorem k_X8_foretell {l : Launch} {D : va_G} {E : Nat → ClassId} {tU : Nat} {τ : Nat → Option XTy} {a0 : Nat} {a1 : Nat} {x2 : Int32} {x3 : Int32} {x4 : Int32} {m0 mE : XMem} (hm : mT m0 = τ) (ta0 : τ a0 = some (.inl 8)) (ta1 : τ a1 = some (.inl 0)) (hf : f_X8_foretell a0 a1 x2 x3 x4 m0 = some mE) : Ct l yX8_foretell cX8_foretell 6 ((Option.none : Option FieldType)) 6 0 0 D E tU [.ref a0, .ref a1, .int x2, .int x3, .int x4] m0 (none) mE (mT mE = mT m0 ∧ True) := by
  subst hm
  refine Ct.of (by decide) (Nat.le_of_ble_eq_true rfl) (fun p e s m below meth c ls C hr hk hnm hl hw => ?_)
  have hx := C.1
  have hb := C.2.1
  have hl : lv_has ls 6 [(0, .ref a0), (1, .ref a1), (2, .int x2), (3, .int x3), (4, .int x4)] := hl
  unfold f_X8_foretell at hf
  refine lv_iconst hx hb dX8_foretell_0 ki_0 ?_
  refine lv_istore (lv' := [(5, .int 0), (0, .ref a0), (1, .ref a1), (2, .int x2), (3, .int x3), (4, .int x4)]) hx hb dX8_foretell_1 hl (by decide) rfl (fun ls hl => ?_)
  refine w_X8_foretell_h3 C hr hk hnm ta0 ta1 ?_ 2000 _ _ _ _ _ (lv_sub hl [1, 2, 3, 4, 5, 0] rfl) hw hf
  intro m101 H locs ls hl hw hf
  refine lv_iload hx hb dX8_foretell_30 (lv_at hl 4 rfl) ?_
  refine lv_if_le (tgt := 51) hx hb dX8_foretell_32 (by decide) (fun c => ?_) (fun c => ?_)
  · have hf := ifp hf c
    exact x_ret C hr hk hw  hf (by decide) (by decide) dX8_foretell_51
  · have hf := ifn hf c
    refine lv_aload_n hx hb dX8_foretell_35 rfl (lv_at hl 0 rfl) ?_
    refine lv_aload_n hx hb dX8_foretell_36 rfl (lv_at hl 1 rfl) ?_
    refine lv_iload_n hx hb dX8_foretell_37 rfl (lv_at hl 2 rfl) ?_
    refine lv_iload_n hx hb dX8_foretell_38 rfl (lv_at hl 3 rfl) ?_
    refine lv_aload_n hx hb dX8_foretell_39 rfl (lv_at hl 0 rfl) ?_
    refine x_getI C hw fa_X8_9 ta0 dX8_foretell_40 ?_
    refine lv_iload hx hb dX8_foretell_43 (lv_at hl 4 rfl) ?_
    refine lv_iadd hx hb dX8_foretell_45 ?_
    refine lv_iconst hx hb dX8_foretell_46 ki_1 ?_
    refine lv_isub hx hb dX8_foretell_47 ?_
    obtain ⟨m102, cm102, hf⟩ := b1_el (o := f_X8_shine a0 a1 x2 x3 (((mI m101 a0 0) + x4) - 1) m101) hf
    refine x_callVv (As := [.ref a1, .int x2, .int x3, .int (((mI m101 a0 0) + x4) - 1)]) (rest := []) C hl.1 hw cb_X8_131 cv_X8_shine (k_X8_shine hw.2.2.2.2 ta0 ta1 cm102) ta0 rfl rfl (by decide) ⟨Nat.le_refl _, Nat.le_refl _⟩ rfl (Nat.le_of_ble_eq_true rfl) dX8_foretell_48 (fun H locs hw tm102 => ?_)
    exact x_ret C hr hk hw  hf (by decide) (by decide) dX8_foretell_51
set_option maxHeartbeats 4000000 in
set_option maxRecDepth 100000 in
theorem w_X8_init_h109 {KC KS : Nat} {p : Program} {l : Launch} {e : Env} {s : State} {m : MethodId} {args : Array Value} {below : List Frame} {meth : Method} {c : Code} {D : va_G} {E : Nat → ClassId} {tU : Nat} {m0 mE : XMem} (C : Cx p s m args c cX8_init 2 RX8 D E (Am m0) tU) (hr : meth.sig.returnType = ((Option.none : Option FieldType))) (hk : meth.locks = false) (hnm : meth.name = yX8_init.name) (hKC : KC ≤ 25) (hKS : KS ≤ 352) {a0 : Nat} {k137 :  XMem → Option (XMem)} (hk137 : ∀  (mu : XMem) (T : Nat → Option XTy) (H : Heap) (locs : List Loc) (ls : Array Slot), lv_has ls 2 [] → Wd D E (Am m0) s T mu H locs → (T a0 = some (.inl 8)) → (∀ q u, mT m0 q = some u → T q = some u) → k137  mu = some mE → W p l e (rmN 2 25 352) s m args below meth c H locs KC KS (MQ below (XQ D E (Am m0) (none) mE (XA m0 mE ∧ True)) args s 25 352 (Am m0)) (F0 m 137 ls [])) : ∀ (n : Nat) (x1 : Int32) (mu : XMem) (T : Nat → Option XTy) (H : Heap) (locs : List Loc) (ls : Array Slot) (cs sl : Nat), lv_has ls 2 [(0, .ref a0), (1, .int x1)] → Wd D E (Am m0) s T mu H locs → (T a0 = some (.inl 8)) → (∀ q u, mT m0 q = some u → T q = some u) → cs + n * 1 ≤ KC → sl + n * 14 ≤ KS → f_X8_init_h109 a0 k137 n x1 mu = some mE → W p l e (rmN 2 25 352) s m args below meth c H locs cs sl (MQ below (XQ D E (Am m0) (none) mE (XA m0 mE ∧ True)) args s 25 352 (Am m0)) (F0 m 109 ls []) := by
  have hx := C.1
  have hb := C.2.1
  intro n
  induction n with
  | zero =>
    intros
    rename_i hf
    cases hf
  | succ n ih =>
    intro x1 mu T H locs ls cs sl hl hw ta0 hmo hcb hsb hf
    rw [f_X8_init_h109] at hf
    simp only [Nat.add_mul, Nat.one_mul] at hcb hsb
    refine lv_iload_n hx hb dX8_init_109 rfl (lv_at hl 1 rfl) ?_
    refine lv_aload_n hx hb dX8_init_110 rfl (lv_at hl 0 rfl) ?_
    obtain ⟨b131, eb131, hf⟩ := fo_el hf
    refine x_getR C hw fa_X8_48 (Or.inr ⟨_, rfl⟩) ta0 eb131 dX8_init_111 (fun tb131 => ?_)
    have tb131 : ∃ n, T b131 = some (.inr (5, n)) := tb131
    refine x_alen (ek := 5) C hw rfl tb131 dX8_init_114 ?_
    refine lv_icmp_ge (tgt := 137) hx hb dX8_init_115 (by decide) (fun c => ?_) (fun c => ?_)
    · have hf := ifp hf c
      refine W.widen (k := KC) (n := KS) (by omega) (by omega) ?_
      exact hk137 _ _ _ _ _ (lv_sub hl [] rfl) hw ta0 hmo hf
    · have hf := ifn hf c
      refine lv_aload_n hx hb dX8_init_118 rfl (lv_at hl 0 rfl) ?_
      obtain ⟨b132, eb132, hf⟩ := fo_el hf
      refine x_getR C hw fa_X8_48 (Or.inr ⟨_, rfl⟩) ta0 eb132 dX8_init_119 (fun tb132 => ?_)
      have tb132 : ∃ n, T b132 = some (.inr (5, n)) := tb132
      refine lv_iload_n hx hb dX8_init_122 rfl (lv_at hl 1 rfl) ?_
      refine x_new C hw xc_1 kc_X8_46 kn_X1 in_X1 (by first | omega | (simp only [rmN]; omega)) (by first | omega | (simp only [rmN]; omega)) dX8_init_123 (fun b133 m134 H Tm134 eb133 em134 hw tb133 mom134 => ?_)
      have hf := nm_el hf eb133
      have hf := nm_el hf em134
      have ta0 := mom134 _ _ ta0
      have tb132 := xmo mom134 tb132
      have hmo := fun q u h => mom134 q u (hmo q u h)
      refine lv_dup hx hb dX8_init_126 rfl ?_
      obtain ⟨m135, cm135, hf⟩ := b1_el (o := f_X1_init b133 m134) hf
      refine x_callMv (As := []) (rest := [.ref b133, .int x1, .ref b132]) C hl.1 hw C.2.2.2.2.2.2.1.1.2.2.1 co_X1_init in_X1 cp_X1_init (by decide) rfl ci_X1_init (k_X1_init hw.2.2.2.2 tb133 cm135) rfl (by decide) ⟨(by first | omega | (simp only [rmN]; omega)), (by first | omega | (simp only [rmN]; omega))⟩ rfl (Nat.le_of_ble_eq_true rfl) dX8_init_127 (fun H locs hw tm135 => ?_)
      obtain ⟨g136, hf⟩ := gd_el hf
      refine x_aast (k := 2) (o := (some b133)) C hw rfl rfl rfl tb132 (fun b h => by cases h; exact tb133) g136 dX8_init_130 (fun m137 H locs em137 hw => ?_)
      have hf := nm_el hf em137
      obtain ⟨x138, ex138⟩ : ∃ z : Int32, z = x1 + 1 := ⟨_, rfl⟩
      have hf := nm_el hf ex138
      refine lv_iinc (v := x138) (lv' := [(1, .int x138), (0, .ref a0)]) hx hb dX8_init_131 hl (k := 1) rfl (by rw [ex138, ki_1]) (by decide) rfl (fun ls hl => ?_)
      refine lv_goto (tgt := 109) hx hb dX8_init_134 (by decide) ?_
      refine ih _ _ _ _ _ _ _ _ (lv_sub hl [1, 0] rfl) hw ta0 hmo ?_ ?_ hf
      · omega
      · omega
set_option maxHeartbeats 4000000 in
set_option maxRecDepth 100000 in
theorem w_X8_init_h79 {KC KS : Nat} {p : Program} {l : Launch} {e : Env} {s : State} {m : MethodId} {args : Array Value} {below : List Frame} {meth : Method} {c : Code} {D : va_G} {E : Nat → ClassId} {tU : Nat} {m0 mE : XMem} (C : Cx p s m args c cX8_init 2 RX8 D E (Am m0) tU) (hr : meth.sig.returnType = ((Option.none : Option FieldType))) (hk : meth.locks = false) (hnm : meth.name = yX8_init.name) (hKC : KC ≤ 25) (hKS : KS ≤ 352) {a0 : Nat} {k107 :  XMem → Option (XMem)} (hk107 : ∀  (mu : XMem) (T : Nat → Option XTy) (H : Heap) (locs : List Loc) (ls : Array Slot), lv_has ls 2 [(0, .ref a0)] → Wd D E (Am m0) s T mu H locs → (T a0 = some (.inl 8)) → (∀ q u, mT m0 q = some u → T q = some u) → k107  mu = some mE → W p l e (rmN 2 25 352) s m args below meth c H locs KC KS (MQ below (XQ D E (Am m0) (none) mE (XA m0 mE ∧ True)) args s 25 352 (Am m0)) (F0 m 107 ls [])) : ∀ (n : Nat) (x1 : Int32) (mu : XMem) (T : Nat → Option XTy) (H : Heap) (locs : List Loc) (ls : Array Slot) (cs sl : Nat), lv_has ls 2 [(0, .ref a0), (1, .int x1)] → Wd D E (Am m0) s T mu H locs → (T a0 = some (.inl 8)) → (∀ q u, mT m0 q = some u → T q = some u) → cs + n * 1 ≤ KC → sl + n * 17 ≤ KS → f_X8_init_h79 a0 k107 n x1 mu = some mE → W p l e (rmN 2 25 352) s m args below meth c H locs cs sl (MQ below (XQ D E (Am m0) (none) mE (XA m0 mE ∧ True)) args s 25 352 (Am m0)) (F0 m 79 ls []) := by
  have hx := C.1
  have hb := C.2.1
  intro n
  induction n with
  | zero =>
    intros
    rename_i hf
    cases hf
  | succ n ih =>
    intro x1 mu T H locs ls cs sl hl hw ta0 hmo hcb hsb hf
    rw [f_X8_init_h79] at hf
    simp only [Nat.add_mul, Nat.one_mul] at hcb hsb
    refine lv_iload_n hx hb dX8_init_79 rfl (lv_at hl 1 rfl) ?_
    refine lv_aload_n hx hb dX8_init_80 rfl (lv_at hl 0 rfl) ?_
    obtain ⟨b123, eb123, hf⟩ := fo_el hf
    refine x_getR C hw fa_X8_36 (Or.inr ⟨_, rfl⟩) ta0 eb123 dX8_init_81 (fun tb123 => ?_)
    have tb123 : ∃ n, T b123 = some (.inr (3, n)) := tb123
    refine x_alen (ek := 3) C hw rfl tb123 dX8_init_84 ?_
    refine lv_icmp_ge (tgt := 107) hx hb dX8_init_85 (by decide) (fun c => ?_) (fun c => ?_)
    · have hf := ifp hf c
      refine W.widen (k := KC) (n := KS) (by omega) (by omega) ?_
      exact hk107 _ _ _ _ _ (lv_sub hl [0] rfl) hw ta0 hmo hf
    · have hf := ifn hf c
      refine lv_aload_n hx hb dX8_init_88 rfl (lv_at hl 0 rfl) ?_
      obtain ⟨b124, eb124, hf⟩ := fo_el hf
      refine x_getR C hw fa_X8_36 (Or.inr ⟨_, rfl⟩) ta0 eb124 dX8_init_89 (fun tb124 => ?_)
      have tb124 : ∃ n, T b124 = some (.inr (3, n)) := tb124
      refine lv_iload_n hx hb dX8_init_92 rfl (lv_at hl 1 rfl) ?_
      refine x_new C hw xc_0 kc_X8_34 kn_X0 in_X0 (by first | omega | (simp only [rmN]; omega)) (by first | omega | (simp only [rmN]; omega)) dX8_init_93 (fun b125 m126 H Tm126 eb125 em126 hw tb125 mom126 => ?_)
      have hf := nm_el hf eb125
      have hf := nm_el hf em126
      have ta0 := mom126 _ _ ta0
      have tb124 := xmo mom126 tb124
      have hmo := fun q u h => mom126 q u (hmo q u h)
      refine lv_dup hx hb dX8_init_96 rfl ?_
      obtain ⟨m127, cm127, hf⟩ := b1_el (o := f_X0_init b125 m126) hf
      refine x_callMv (As := []) (rest := [.ref b125, .int x1, .ref b124]) C hl.1 hw C.2.2.2.2.2.2.1.1.2.1 co_X0_init in_X0 cp_X0_init (by decide) rfl ci_X0_init (k_X0_init hw.2.2.2.2 tb125 cm127) rfl (by decide) ⟨(by first | omega | (simp only [rmN]; omega)), (by first | omega | (simp only [rmN]; omega))⟩ rfl (Nat.le_of_ble_eq_true rfl) dX8_init_97 (fun H locs hw tm127 => ?_)
      obtain ⟨g128, hf⟩ := gd_el hf
      refine x_aast (k := 0) (o := (some b125)) C hw rfl rfl rfl tb124 (fun b h => by cases h; exact tb125) g128 dX8_init_100 (fun m129 H locs em129 hw => ?_)
      have hf := nm_el hf em129
      obtain ⟨x130, ex130⟩ : ∃ z : Int32, z = x1 + 1 := ⟨_, rfl⟩
      have hf := nm_el hf ex130
      refine lv_iinc (v := x130) (lv' := [(1, .int x130), (0, .ref a0)]) hx hb dX8_init_101 hl (k := 1) rfl (by rw [ex130, ki_1]) (by decide) rfl (fun ls hl => ?_)
      refine lv_goto (tgt := 79) hx hb dX8_init_104 (by decide) ?_
      refine ih _ _ _ _ _ _ _ _ (lv_sub hl [1, 0] rfl) hw ta0 hmo ?_ ?_ hf
      · omega
      · omega
set_option maxHeartbeats 4000000 in
set_option maxRecDepth 100000 in
theorem k_X8_init {l : Launch} {D : va_G} {E : Nat → ClassId} {tU : Nat} {τ : Nat → Option XTy} {a0 : Nat} {m0 mE : XMem} (hm : mT m0 = τ) (ta0 : τ a0 = some (.inl 8)) (hf : f_X8_init a0 m0 = some mE) : Ct l yX8_init cX8_init 2 ((Option.none : Option FieldType)) 2 25 352 D E tU [.ref a0] m0 (none) mE (XA m0 mE ∧ True) := by
  subst hm
  refine Ct.of (by decide) (Nat.le_of_ble_eq_true rfl) (fun p e s m below meth c ls C hr hk hnm hl hw => ?_)
  have hx := C.1
  have hb := C.2.1
  have hl : lv_has ls 2 [(0, .ref a0)] := hl
  unfold f_X8_init at hf
  have hmo : ∀ q u, mT m0 q = some u → mT m0 q = some u := fun _ _ h => h
  refine lv_aload_n hx hb dX8_init_0 rfl (lv_at hl 0 rfl) ?_
  refine x_obj C hl.1 ko_X8_3 ko_i ko_c (by decide) (Nat.le_of_ble_eq_true rfl) (by decide) dX8_init_1 ?_
  refine lv_aload_n hx hb dX8_init_4 rfl (lv_at hl 0 rfl) ?_
  refine lv_iconst hx hb dX8_init_5 ki_0 ?_
  refine x_putI C hw fa_X8_9 ta0 dX8_init_6 (fun m101 H locs em101 hw => ?_)
  have hf := nm_el hf em101
  refine lv_aload_n hx hb dX8_init_9 rfl (lv_at hl 0 rfl) ?_
  refine lv_iconst hx hb dX8_init_10 ki_0 ?_
  refine x_putI C hw fa_X8_15 ta0 dX8_init_11 (fun m102 H locs em102 hw => ?_)
  have hf := nm_el hf em102
  refine lv_aload_n hx hb dX8_init_14 rfl (lv_at hl 0 rfl) ?_
  refine lv_iconst hx hb dX8_init_15 ki_0 ?_
  refine x_putI C hw fa_X8_18 ta0 dX8_init_16 (fun m103 H locs em103 hw => ?_)
  have hf := nm_el hf em103
  refine lv_aload_n hx hb dX8_init_19 rfl (lv_at hl 0 rfl) ?_
  refine lv_iconst hx hb dX8_init_20 ki_0 ?_
  refine x_putI C hw fa_X8_21 ta0 dX8_init_21 (fun m104 H locs em104 hw => ?_)
  have hf := nm_el hf em104
  refine lv_aload_n hx hb dX8_init_24 rfl (lv_at hl 0 rfl) ?_
  refine lv_iconst hx hb dX8_init_25 ki_m1 ?_
  refine x_putI C hw fa_X8_24 ta0 dX8_init_26 (fun m105 H locs em105 hw => ?_)
  have hf := nm_el hf em105
  refine lv_aload_n hx hb dX8_init_29 rfl (lv_at hl 0 rfl) ?_
  refine lv_null hx hb dX8_init_30 ?_
  refine x_putQ (o := none) C hw fa_X8_27 (Or.inl ⟨_, rfl⟩) ta0 (fun b h => by cases h) dX8_init_31 (fun m106 H locs em106 hw => ?_)
  have hf := nm_el hf em106
  refine lv_aload_n hx hb dX8_init_34 rfl (lv_at hl 0 rfl) ?_
  refine lv_null hx hb dX8_init_35 ?_
  refine x_putQ (o := none) C hw fa_X8_31 (Or.inl ⟨_, rfl⟩) ta0 (fun b h => by cases h) dX8_init_36 (fun m107 H locs em107 hw => ?_)
  have hf := nm_el hf em107
  refine lv_aload_n hx hb dX8_init_39 rfl (lv_at hl 0 rfl) ?_
  refine lv_bipush hx hb dX8_init_40 kb_8 ?_
  refine x_newR (k := 0) (N := 8) C hw rfl kc_X8_34 C.2.2.2.2.2.2.1.2.1 (by decide) (by decide) (by decide) (by decide) (by decide) dX8_init_42 (fun b108 m109 H Tm109 eb108 em109 hw tb108 mom109 => ?_)
  have hf := nm_el hf eb108
  have hf := nm_el hf em109
  have tb108 : ∃ n, Tm109 b108 = some (.inr (3, n)) := ⟨_, tb108⟩
  have ta0 := mom109 _ _ ta0
  have hmo := fun q u h => mom109 q u (hmo q u h)
  refine x_putFR C hnm hw fa_X8_36 (Or.inr ⟨_, rfl⟩) rfl ta0 tb108 dX8_init_45 (fun m110 H locs em110 hw => ?_)
  have hf := nm_el hf em110
  refine lv_aload_n hx hb dX8_init_48 rfl (lv_at hl 0 rfl) ?_
  refine lv_bipush hx hb dX8_init_49 kb_6 ?_
  refine x_newR (k := 1) (N := 6) C hw rfl kc_X8_40 C.2.2.2.2.2.2.1.2.2.1 (by decide) (by decide) (by decide) (by decide) (by decide) dX8_init_51 (fun b111 m112 H Tm112 eb111 em112 hw tb111 mom112 => ?_)
  have hf := nm_el hf eb111
  have hf := nm_el hf em112
  have tb111 : ∃ n, Tm112 b111 = some (.inr (4, n)) := ⟨_, tb111⟩
  have ta0 := mom112 _ _ ta0
  have hmo := fun q u h => mom112 q u (hmo q u h)
  refine x_putFR C hnm hw fa_X8_42 (Or.inr ⟨_, rfl⟩) rfl ta0 tb111 dX8_init_54 (fun m113 H locs em113 hw => ?_)
  have hf := nm_el hf em113
  refine lv_aload_n hx hb dX8_init_57 rfl (lv_at hl 0 rfl) ?_
  refine lv_bipush hx hb dX8_init_58 kb_8 ?_
  refine x_newR (k := 2) (N := 8) C hw rfl kc_X8_46 C.2.2.2.2.2.2.1.2.2.2.1 (by decide) (by decide) (by decide) (by decide) (by decide) dX8_init_60 (fun b114 m115 H Tm115 eb114 em115 hw tb114 mom115 => ?_)
  have hf := nm_el hf eb114
  have hf := nm_el hf em115
  have tb114 : ∃ n, Tm115 b114 = some (.inr (5, n)) := ⟨_, tb114⟩
  have ta0 := mom115 _ _ ta0
  have hmo := fun q u h => mom115 q u (hmo q u h)
  refine x_putFR C hnm hw fa_X8_48 (Or.inr ⟨_, rfl⟩) rfl ta0 tb114 dX8_init_63 (fun m116 H locs em116 hw => ?_)
  have hf := nm_el hf em116
  refine lv_aload_n hx hb dX8_init_66 rfl (lv_at hl 0 rfl) ?_
  refine x_new C hw xc_7 kc_X8_52 kn_X7 in_X7 (by decide) (by decide) dX8_init_67 (fun b117 m118 H Tm118 eb117 em118 hw tb117 mom118 => ?_)
  have hf := nm_el hf eb117
  have hf := nm_el hf em118
  have ta0 := mom118 _ _ ta0
  have hmo := fun q u h => mom118 q u (hmo q u h)
  refine lv_dup hx hb dX8_init_70 rfl ?_
  obtain ⟨m119, cm119, hf⟩ := b1_el (o := f_X7_init b117 m118) hf
  refine x_callMvN (As := []) (rest := [.ref b117, .ref a0]) C hl.1 hw C.2.2.2.2.2.2.1.1.1 co_X7_init in_X7 cp_X7_init (by decide) rfl ci_X7_init (k_X7_init hw.2.2.2.2 tb117 cm119) rfl (by decide) ⟨(by decide), (by decide)⟩ rfl (Nat.le_of_ble_eq_true rfl) dX8_init_71 (fun H locs Tm119 eTm119 hw mom119 tm119 => ?_)
  have ta0 := mom119 _ _ ta0
  have tb117 := mom119 _ _ tb117
  have hmo := fun q u h => mom119 q u (hmo q u h)
  refine x_putFR C hnm hw fa_X8_55 (Or.inl ⟨_, rfl⟩) rfl ta0 tb117 dX8_init_74 (fun m120 H locs em120 hw => ?_)
  have hf := nm_el hf em120
  refine lv_iconst hx hb dX8_init_77 ki_0 ?_
  refine lv_istore_n (lv' := [(1, .int 0), (0, .ref a0)]) hx hb dX8_init_78 rfl hl (by decide) rfl (fun ls hl => ?_)
  refine w_X8_init_h79 (KC := 15) (KS := 212) C hr hk hnm (by decide) (by decide) ?_ 10 _ _ _ _ _ _ _ _ (lv_sub hl [1, 0] rfl) hw ta0 hmo (by decide) (by decide) hf
  intro m121 Tm121 H locs ls hl hw ta0 hmo hf
  refine lv_iconst hx hb dX8_init_107 ki_0 ?_
  refine lv_istore_n (lv' := [(1, .int 0), (0, .ref a0)]) hx hb dX8_init_108 rfl hl (by decide) rfl (fun ls hl => ?_)
  refine w_X8_init_h109 (KC := 25) (KS := 352) C hr hk hnm (by decide) (by decide) ?_ 10 _ _ _ _ _ _ _ _ (lv_sub hl [1, 0] rfl) hw ta0 hmo (by decide) (by decide) hf
  intro m122 Tm122 H locs ls hl hw ta0 hmo hf
  exact x_retN C hr hk hw hmo hf (by decide) (by decide) dX8_init_137
set_option maxHeartbeats 4000000 in
set_option maxRecDepth 100000 in
theorem k_X8_newCell {l : Launch} {D : va_G} {E : Nat → ClassId} {tU : Nat} {τ : Nat → Option XTy} {a0 : Nat} {m0 mE : XMem} {rE : Option Nat} (hm : mT m0 = τ) (ta0 : τ a0 = some (.inl 8)) (hf : f_X8_newCell a0 m0 = some (rE, mE)) : Ct l yX8_newCell cX8_newCell 1 ((Option.some (FieldType.object "WarmGlass$Cell"))) 2 0 0 D E tU [.ref a0] m0 (some (va_rf rE)) mE (mT mE = mT m0 ∧ (∀ b, rE = some b → mT m0 b = some (.inl 0))) := by
  subst hm
  refine Ct.of (by decide) (Nat.le_of_ble_eq_true rfl) (fun p e s m below meth c ls C hr hk hnm hl hw => ?_)
  have hx := C.1
  have hb := C.2.1
  have hl : lv_has ls 1 [(0, .ref a0)] := hl
  unfold f_X8_newCell at hf
  refine lv_aload_n hx hb dX8_newCell_0 rfl (lv_at hl 0 rfl) ?_
  refine x_getI C hw fa_X8_15 ta0 dX8_newCell_1 ?_
  refine lv_bipush hx hb dX8_newCell_4 kb_8 ?_
  refine lv_icmp_lt (tgt := 11) hx hb dX8_newCell_6 (by decide) (fun c => ?_) (fun c => ?_)
  · have hf := ifp hf c
    refine lv_aload_n hx hb dX8_newCell_11 rfl (lv_at hl 0 rfl) ?_
    refine lv_dup hx hb dX8_newCell_12 rfl ?_
    refine x_getI C hw fa_X8_15 ta0 dX8_newCell_13 ?_
    refine lv_iconst hx hb dX8_newCell_16 ki_1 ?_
    refine lv_iadd hx hb dX8_newCell_17 ?_
    refine x_putI C hw fa_X8_15 ta0 dX8_newCell_18 (fun m101 H locs em101 hw => ?_)
    have hf := nm_el hf em101
    refine lv_aload_n hx hb dX8_newCell_21 rfl (lv_at hl 0 rfl) ?_
    refine lv_aload_n hx hb dX8_newCell_22 rfl (lv_at hl 0 rfl) ?_
    refine x_getI C hw fa_X8_15 ta0 dX8_newCell_23 ?_
    refine lv_iconst hx hb dX8_newCell_26 ki_1 ?_
    refine lv_isub hx hb dX8_newCell_27 ?_
    obtain ⟨o103, m102, cm102, hf⟩ := b2_el (o := f_X8_cellAt a0 ((mI m101 a0 1) - 1) m101) hf
    have hmp := hw.2.2.2.2
    refine x_callVq (As := [.int ((mI m101 a0 1) - 1)]) (rest := []) C hl.1 hw cb_X8_61 cv_X8_cellAt (k_X8_cellAt hw.2.2.2.2 ta0 cm102) ta0 rfl rfl (by decide) ⟨Nat.le_refl _, Nat.le_refl _⟩ rfl (Nat.le_of_ble_eq_true rfl) dX8_newCell_28 (fun H locs hw to103 => ?_)
    have to103 : ∀ b, o103 = some b → (mT m0) b = some (.inl 0) := fun b h => by have q := to103 b h; rw [hmp] at q; exact q
    exact x_retQ (o := o103) C hr hk hw  to103 hf (by decide) (by decide) dX8_newCell_31
  · have hf := ifn hf c
    refine lv_null hx hb dX8_newCell_9 ?_
    exact x_retQ (o := none) C hr hk hw  (fun b h => by cases h) hf (by decide) (by decide) dX8_newCell_10
set_option maxHeartbeats 4000000 in
set_option maxRecDepth 100000 in
theorem k_X8_newHouse {l : Launch} {D : va_G} {E : Nat → ClassId} {tU : Nat} {τ : Nat → Option XTy} {a0 : Nat} {m0 mE : XMem} {rE : Option Nat} (hm : mT m0 = τ) (ta0 : τ a0 = some (.inl 8)) (hf : f_X8_newHouse a0 m0 = some (rE, mE)) : Ct l yX8_newHouse cX8_newHouse 1 ((Option.some (FieldType.object "WarmGlass$House"))) 2 0 0 D E tU [.ref a0] m0 (some (va_rf rE)) mE (mT mE = mT m0 ∧ (∀ b, rE = some b → mT m0 b = some (.inl 1))) := by
  subst hm
  refine Ct.of (by decide) (Nat.le_of_ble_eq_true rfl) (fun p e s m below meth c ls C hr hk hnm hl hw => ?_)
  have hx := C.1
  have hb := C.2.1
  have hl : lv_has ls 1 [(0, .ref a0)] := hl
  unfold f_X8_newHouse at hf
  refine lv_aload_n hx hb dX8_newHouse_0 rfl (lv_at hl 0 rfl) ?_
  refine x_getI C hw fa_X8_21 ta0 dX8_newHouse_1 ?_
  refine lv_bipush hx hb dX8_newHouse_4 kb_8 ?_
  refine lv_icmp_lt (tgt := 11) hx hb dX8_newHouse_6 (by decide) (fun c => ?_) (fun c => ?_)
  · have hf := ifp hf c
    refine lv_aload_n hx hb dX8_newHouse_11 rfl (lv_at hl 0 rfl) ?_
    refine lv_dup hx hb dX8_newHouse_12 rfl ?_
    refine x_getI C hw fa_X8_21 ta0 dX8_newHouse_13 ?_
    refine lv_iconst hx hb dX8_newHouse_16 ki_1 ?_
    refine lv_iadd hx hb dX8_newHouse_17 ?_
    refine x_putI C hw fa_X8_21 ta0 dX8_newHouse_18 (fun m101 H locs em101 hw => ?_)
    have hf := nm_el hf em101
    refine lv_aload_n hx hb dX8_newHouse_21 rfl (lv_at hl 0 rfl) ?_
    refine lv_aload_n hx hb dX8_newHouse_22 rfl (lv_at hl 0 rfl) ?_
    refine x_getI C hw fa_X8_21 ta0 dX8_newHouse_23 ?_
    refine lv_iconst hx hb dX8_newHouse_26 ki_1 ?_
    refine lv_isub hx hb dX8_newHouse_27 ?_
    obtain ⟨o103, m102, cm102, hf⟩ := b2_el (o := f_X8_houseAt a0 ((mI m101 a0 3) - 1) m101) hf
    have hmp := hw.2.2.2.2
    refine x_callVq (As := [.int ((mI m101 a0 3) - 1)]) (rest := []) C hl.1 hw cb_X8_73 cv_X8_houseAt (k_X8_houseAt hw.2.2.2.2 ta0 cm102) ta0 rfl rfl (by decide) ⟨Nat.le_refl _, Nat.le_refl _⟩ rfl (Nat.le_of_ble_eq_true rfl) dX8_newHouse_28 (fun H locs hw to103 => ?_)
    have to103 : ∀ b, o103 = some b → (mT m0) b = some (.inl 1) := fun b h => by have q := to103 b h; rw [hmp] at q; exact q
    exact x_retQ (o := o103) C hr hk hw  to103 hf (by decide) (by decide) dX8_newHouse_31
  · have hf := ifn hf c
    refine lv_null hx hb dX8_newHouse_9 ?_
    exact x_retQ (o := none) C hr hk hw  (fun b h => by cases h) hf (by decide) (by decide) dX8_newHouse_10
set_option maxHeartbeats 4000000 in
set_option maxRecDepth 100000 in
theorem k_X8_passHourOf {l : Launch} {D : va_G} {E : Nat → ClassId} {tU : Nat} {τ : Nat → Option XTy} {a0 : Nat} {a1 : Nat} {m0 mE : XMem} (hm : mT m0 = τ) (ta0 : τ a0 = some (.inl 8)) (ta1 : τ a1 = some (.inl 1)) (hf : f_X8_passHourOf a0 a1 m0 = some mE) : Ct l yX8_passHourOf cX8_passHourOf 3 ((Option.none : Option FieldType)) 5 0 0 D E tU [.ref a0, .ref a1] m0 (none) mE (mT mE = mT m0 ∧ True) := by
  subst hm
  refine Ct.of (by decide) (Nat.le_of_ble_eq_true rfl) (fun p e s m below meth c ls C hr hk hnm hl hw => ?_)
  have hx := C.1
  have hb := C.2.1
  have hl : lv_has ls 3 [(0, .ref a0), (1, .ref a1)] := hl
  unfold f_X8_passHourOf at hf
  refine lv_aload_n hx hb dX8_passHourOf_0 rfl (lv_at hl 0 rfl) ?_
  refine lv_aload_n hx hb dX8_passHourOf_1 rfl (lv_at hl 1 rfl) ?_
  refine x_getI C hw fa_X8_137 ta1 dX8_passHourOf_2 ?_
  obtain ⟨o102, m101, cm101, hf⟩ := b2_el (o := f_X8_cellAt a0 (mI m0 a1 0) m0) hf
  have hmp := hw.2.2.2.2
  refine x_callVq (As := [.int (mI m0 a1 0)]) (rest := []) C hl.1 hw cb_X8_61 cv_X8_cellAt (k_X8_cellAt hw.2.2.2.2 ta0 cm101) ta0 rfl rfl (by decide) ⟨Nat.le_refl _, Nat.le_refl _⟩ rfl (Nat.le_of_ble_eq_true rfl) dX8_passHourOf_5 (fun H locs hw to102 => ?_)
  have to102 : ∀ b, o102 = some b → (mT m0) b = some (.inl 0) := fun b h => by have q := to102 b h; rw [hmp] at q; exact q
  refine x_astore_nQ (lv' := [(2, va_rf o102), (0, .ref a0), (1, .ref a1)]) hx hb dX8_passHourOf_8 rfl hl (by decide) rfl (fun ls hl => ?_)
  refine x_aload_nQ hx hb dX8_passHourOf_9 rfl (lv_at hl 0 rfl) ?_
  cases o102 with
  | none =>
    have hf := oc_n hf
    refine lv_ifnullN (tgt := 41) hx hb dX8_passHourOf_10 (by decide) ?_
    refine lv_aload_n hx hb dX8_passHourOf_41 rfl (lv_at hl 2 rfl) ?_
    refine lv_aload_n hx hb dX8_passHourOf_42 rfl (lv_at hl 1 rfl) ?_
    refine x_getI C hw fa_X8_9 ta0 dX8_passHourOf_43 ?_
    obtain ⟨m104, cm104, hf⟩ := b1_el (o := f_X1_speak a1 (mI m101 a0 0) m101) hf
    refine x_callVv (As := [.int (mI m101 a0 0)]) (rest := []) C hl.1 hw cb_X8_149 cv_X1_speak (k_X1_speak hw.2.2.2.2 ta1 cm104) ta1 rfl rfl (by decide) ⟨Nat.le_refl _, Nat.le_refl _⟩ rfl (Nat.le_of_ble_eq_true rfl) dX8_passHourOf_46 (fun H locs hw tm104 => ?_)
    exact x_ret C hr hk hw  hf (by decide) (by decide) dX8_passHourOf_49
  | some b103 =>
    have hf := oc_s hf
    have tb103 := to102 b103 rfl
    refine lv_ifnull hx hb dX8_passHourOf_10 ?_
    refine lv_aload_n hx hb dX8_passHourOf_13 rfl (lv_at hl 2 rfl) ?_
    refine x_getI C hw fa_X8_140 ta1 dX8_passHourOf_14 ?_
    refine lv_if_eq (tgt := 36) hx hb dX8_passHourOf_17 (by decide) (fun c => ?_) (fun c => ?_)
    · have hf := ifp hf c
      refine lv_aload_n hx hb dX8_passHourOf_36 rfl (lv_at hl 2 rfl) ?_
      refine lv_aload_n hx hb dX8_passHourOf_37 rfl (lv_at hl 0 rfl) ?_
      obtain ⟨m105, cm105, hf⟩ := b1_el (o := f_X1_addHour a1 b103 m101) hf
      refine x_callVv (As := [.ref b103]) (rest := []) C hl.1 hw cb_X8_146 cv_X1_addHour (k_X1_addHour hw.2.2.2.2 ta1 tb103 cm105) ta1 rfl rfl (by decide) ⟨Nat.le_refl _, Nat.le_refl _⟩ rfl (Nat.le_of_ble_eq_true rfl) dX8_passHourOf_38 (fun H locs hw tm105 => ?_)
      refine lv_aload_n hx hb dX8_passHourOf_41 rfl (lv_at hl 2 rfl) ?_
      refine lv_aload_n hx hb dX8_passHourOf_42 rfl (lv_at hl 1 rfl) ?_
      refine x_getI C hw fa_X8_9 ta0 dX8_passHourOf_43 ?_
      obtain ⟨m106, cm106, hf⟩ := b1_el (o := f_X1_speak a1 (mI m105 a0 0) m105) hf
      refine x_callVv (As := [.int (mI m105 a0 0)]) (rest := []) C hl.1 hw cb_X8_149 cv_X1_speak (k_X1_speak hw.2.2.2.2 ta1 cm106) ta1 rfl rfl (by decide) ⟨Nat.le_refl _, Nat.le_refl _⟩ rfl (Nat.le_of_ble_eq_true rfl) dX8_passHourOf_46 (fun H locs hw tm106 => ?_)
      exact x_ret C hr hk hw  hf (by decide) (by decide) dX8_passHourOf_49
    · have hf := ifn hf c
      refine lv_aload_n hx hb dX8_passHourOf_20 rfl (lv_at hl 1 rfl) ?_
      refine lv_aload_n hx hb dX8_passHourOf_21 rfl (lv_at hl 0 rfl) ?_
      refine lv_aload_n hx hb dX8_passHourOf_22 rfl (lv_at hl 2 rfl) ?_
      refine x_getI C hw fa_X8_137 ta1 dX8_passHourOf_23 ?_
      refine lv_aload_n hx hb dX8_passHourOf_26 rfl (lv_at hl 1 rfl) ?_
      refine x_getI C hw fa_X8_9 ta0 dX8_passHourOf_27 ?_
      obtain ⟨r108, m107, cm107, hf⟩ := b2_el (o := f_X8_choiceOf a0 b103 (mI m101 a1 0) (mI m101 a0 0) m101) hf
      refine x_callVi (As := [.ref b103, .int (mI m101 a1 0), .int (mI m101 a0 0)]) (rest := []) C hl.1 hw cb_X8_143 cv_X8_choiceOf (k_X8_choiceOf hw.2.2.2.2 ta0 tb103 cm107) ta0 rfl rfl (by decide) ⟨Nat.le_refl _, Nat.le_refl _⟩ rfl (Nat.le_of_ble_eq_true rfl) dX8_passHourOf_30 (fun H locs hw tr108 => ?_)
      refine lv_if_eq (tgt := 41) hx hb dX8_passHourOf_33 (by decide) (fun c => ?_) (fun c => ?_)
      · have hf := ifp hf c
        refine lv_aload_n hx hb dX8_passHourOf_41 rfl (lv_at hl 2 rfl) ?_
        refine lv_aload_n hx hb dX8_passHourOf_42 rfl (lv_at hl 1 rfl) ?_
        refine x_getI C hw fa_X8_9 ta0 dX8_passHourOf_43 ?_
        obtain ⟨m109, cm109, hf⟩ := b1_el (o := f_X1_speak a1 (mI m107 a0 0) m107) hf
        refine x_callVv (As := [.int (mI m107 a0 0)]) (rest := []) C hl.1 hw cb_X8_149 cv_X1_speak (k_X1_speak hw.2.2.2.2 ta1 cm109) ta1 rfl rfl (by decide) ⟨Nat.le_refl _, Nat.le_refl _⟩ rfl (Nat.le_of_ble_eq_true rfl) dX8_passHourOf_46 (fun H locs hw tm109 => ?_)
        exact x_ret C hr hk hw  hf (by decide) (by decide) dX8_passHourOf_49
      · have hf := ifn hf c
        refine lv_aload_n hx hb dX8_passHourOf_36 rfl (lv_at hl 2 rfl) ?_
        refine lv_aload_n hx hb dX8_passHourOf_37 rfl (lv_at hl 0 rfl) ?_
        obtain ⟨m110, cm110, hf⟩ := b1_el (o := f_X1_addHour a1 b103 m107) hf
        refine x_callVv (As := [.ref b103]) (rest := []) C hl.1 hw cb_X8_146 cv_X1_addHour (k_X1_addHour hw.2.2.2.2 ta1 tb103 cm110) ta1 rfl rfl (by decide) ⟨Nat.le_refl _, Nat.le_refl _⟩ rfl (Nat.le_of_ble_eq_true rfl) dX8_passHourOf_38 (fun H locs hw tm110 => ?_)
        refine lv_aload_n hx hb dX8_passHourOf_41 rfl (lv_at hl 2 rfl) ?_
        refine lv_aload_n hx hb dX8_passHourOf_42 rfl (lv_at hl 1 rfl) ?_
        refine x_getI C hw fa_X8_9 ta0 dX8_passHourOf_43 ?_
        obtain ⟨m111, cm111, hf⟩ := b1_el (o := f_X1_speak a1 (mI m110 a0 0) m110) hf
        refine x_callVv (As := [.int (mI m110 a0 0)]) (rest := []) C hl.1 hw cb_X8_149 cv_X1_speak (k_X1_speak hw.2.2.2.2 ta1 cm111) ta1 rfl rfl (by decide) ⟨Nat.le_refl _, Nat.le_refl _⟩ rfl (Nat.le_of_ble_eq_true rfl) dX8_passHourOf_46 (fun H locs hw tm111 => ?_)
        exact x_ret C hr hk hw  hf (by decide) (by decide) dX8_passHourOf_49
set_option maxHeartbeats 4000000 in
set_option maxRecDepth 100000 in
theorem w_X8_passHour_h56 {p : Program} {l : Launch} {e : Env} {s : State} {m : MethodId} {args : Array Value} {below : List Frame} {meth : Method} {c : Code} {D : va_G} {E : Nat → ClassId} {tU : Nat} {m0 mE : XMem} (C : Cx p s m args c cX8_passHour 3 RX8 D E (Am m0) tU) (hr : meth.sig.returnType = ((Option.none : Option FieldType))) (hk : meth.locks = false) (hnm : meth.name = yX8_passHour.name) {a0 : Nat} (ta0 : mT m0 a0 = some (.inl 8)) {k85 :  XMem → Option (XMem)} (hk85 : ∀  (mu : XMem) (H : Heap) (locs : List Loc) (ls : Array Slot), lv_has ls 3 [(0, .ref a0)] → Wd D E (Am m0) s (mT m0) mu H locs →   k85  mu = some mE → W p l e (rmN 6 0 0) s m args below meth c H locs 0 0 (MQ below (XQ D E (Am m0) (none) mE (mT mE = mT m0 ∧ True)) args s 0 0 (Am m0)) (F0 m 85 ls [])) : ∀ (n : Nat) (x1 : Int32) (mu : XMem) (H : Heap) (locs : List Loc) (ls : Array Slot), lv_has ls 3 [(0, .ref a0), (1, .int x1)] → Wd D E (Am m0) s (mT m0) mu H locs → f_X8_passHour_h56 a0 k85 n x1 mu = some mE → W p l e (rmN 6 0 0) s m args below meth c H locs 0 0 (MQ below (XQ D E (Am m0) (none) mE (mT mE = mT m0 ∧ True)) args s 0 0 (Am m0)) (F0 m 56 ls []) := by
  have hx := C.1
  have hb := C.2.1
  intro n
  induction n with
  | zero =>
    intros
    rename_i hf
    cases hf
  | succ n ih =>
    intro x1 mu H locs ls hl hw hf
    rw [f_X8_passHour_h56] at hf
    refine lv_iload_n hx hb dX8_passHour_56 rfl (lv_at hl 1 rfl) ?_
    refine lv_aload_n hx hb dX8_passHour_57 rfl (lv_at hl 0 rfl) ?_
    refine x_getI C hw fa_X8_21 ta0 dX8_passHour_58 ?_
    refine lv_icmp_ge (tgt := 85) hx hb dX8_passHour_61 (by decide) (fun c => ?_) (fun c => ?_)
    · have hf := ifp hf c
      exact hk85 _ _ _ _ (lv_sub hl [0] rfl) hw hf
    · have hf := ifn hf c
      refine lv_aload_n hx hb dX8_passHour_64 rfl (lv_at hl 0 rfl) ?_
      refine lv_iload_n hx hb dX8_passHour_65 rfl (lv_at hl 1 rfl) ?_
      obtain ⟨o112, m111, cm111, hf⟩ := b2_el (o := f_X8_houseAt a0 x1 mu) hf
      have hmp := hw.2.2.2.2
      refine x_callVq (As := [.int x1]) (rest := []) C hl.1 hw cb_X8_73 cv_X8_houseAt (k_X8_houseAt hw.2.2.2.2 ta0 cm111) ta0 rfl rfl (by decide) ⟨Nat.le_refl _, Nat.le_refl _⟩ rfl (Nat.le_of_ble_eq_true rfl) dX8_passHour_66 (fun H locs hw to112 => ?_)
      have to112 : ∀ b, o112 = some b → (mT m0) b = some (.inl 1) := fun b h => by have q := to112 b h; rw [hmp] at q; exact q
      refine x_astore_nQ (lv' := [(2, va_rf o112), (0, .ref a0), (1, .int x1)]) hx hb dX8_passHour_69 rfl hl (by decide) rfl (fun ls hl => ?_)
      refine x_aload_nQ hx hb dX8_passHour_70 rfl (lv_at hl 0 rfl) ?_
      cases o112 with
      | none =>
        have hf := oc_n hf
        refine lv_ifnullN (tgt := 79) hx hb dX8_passHour_71 (by decide) ?_
        obtain ⟨x114, ex114⟩ : ∃ z : Int32, z = x1 + 1 := ⟨_, rfl⟩
        have hf := nm_el hf ex114
        refine lv_iinc (v := x114) (lv' := [(1, .int x114), (2, .null), (0, .ref a0)]) hx hb dX8_passHour_79 hl (k := 2) rfl (by rw [ex114, ki_1]) (by decide) rfl (fun ls hl => ?_)
        refine lv_goto (tgt := 56) hx hb dX8_passHour_82 (by decide) ?_
        exact ih _ _ _ _ _ (lv_sub hl [2, 0] rfl) hw hf
      | some b113 =>
        have hf := oc_s hf
        have tb113 := to112 b113 rfl
        refine lv_ifnull hx hb dX8_passHour_71 ?_
        refine lv_aload_n hx hb dX8_passHour_74 rfl (lv_at hl 1 rfl) ?_
        refine lv_aload_n hx hb dX8_passHour_75 rfl (lv_at hl 0 rfl) ?_
        obtain ⟨m115, cm115, hf⟩ := b1_el (o := f_X8_passHourOf a0 b113 m111) hf
        refine x_callVv (As := [.ref b113]) (rest := []) C hl.1 hw cb_X8_134 cv_X8_passHourOf (k_X8_passHourOf hw.2.2.2.2 ta0 tb113 cm115) ta0 rfl rfl (by decide) ⟨Nat.le_refl _, Nat.le_refl _⟩ rfl (Nat.le_of_ble_eq_true rfl) dX8_passHour_76 (fun H locs hw tm115 => ?_)
        obtain ⟨x116, ex116⟩ : ∃ z : Int32, z = x1 + 1 := ⟨_, rfl⟩
        have hf := nm_el hf ex116
        refine lv_iinc (v := x116) (lv' := [(1, .int x116), (2, .ref b113), (0, .ref a0)]) hx hb dX8_passHour_79 hl (k := 2) rfl (by rw [ex116, ki_1]) (by decide) rfl (fun ls hl => ?_)
        refine lv_goto (tgt := 56) hx hb dX8_passHour_82 (by decide) ?_
        exact ih _ _ _ _ _ (lv_sub hl [2, 0] rfl) hw hf
set_option maxHeartbeats 4000000 in
set_option maxRecDepth 100000 in
theorem w_X8_passHour_h2 {p : Program} {l : Launch} {e : Env} {s : State} {m : MethodId} {args : Array Value} {below : List Frame} {meth : Method} {c : Code} {D : va_G} {E : Nat → ClassId} {tU : Nat} {m0 mE : XMem} (C : Cx p s m args c cX8_passHour 3 RX8 D E (Am m0) tU) (hr : meth.sig.returnType = ((Option.none : Option FieldType))) (hk : meth.locks = false) (hnm : meth.name = yX8_passHour.name) {a0 : Nat} (ta0 : mT m0 a0 = some (.inl 8)) {k54 :  XMem → Option (XMem)} (hk54 : ∀  (mu : XMem) (H : Heap) (locs : List Loc) (ls : Array Slot), lv_has ls 3 [(0, .ref a0)] → Wd D E (Am m0) s (mT m0) mu H locs →   k54  mu = some mE → W p l e (rmN 6 0 0) s m args below meth c H locs 0 0 (MQ below (XQ D E (Am m0) (none) mE (mT mE = mT m0 ∧ True)) args s 0 0 (Am m0)) (F0 m 54 ls [])) : ∀ (n : Nat) (x1 : Int32) (mu : XMem) (H : Heap) (locs : List Loc) (ls : Array Slot), lv_has ls 3 [(0, .ref a0), (1, .int x1)] → Wd D E (Am m0) s (mT m0) mu H locs → f_X8_passHour_h2 a0 k54 n x1 mu = some mE → W p l e (rmN 6 0 0) s m args below meth c H locs 0 0 (MQ below (XQ D E (Am m0) (none) mE (mT mE = mT m0 ∧ True)) args s 0 0 (Am m0)) (F0 m 2 ls []) := by
  have hx := C.1
  have hb := C.2.1
  intro n
  induction n with
  | zero =>
    intros
    rename_i hf
    cases hf
  | succ n ih =>
    intro x1 mu H locs ls hl hw hf
    rw [f_X8_passHour_h2] at hf
    refine lv_iload_n hx hb dX8_passHour_2 rfl (lv_at hl 1 rfl) ?_
    refine lv_aload_n hx hb dX8_passHour_3 rfl (lv_at hl 0 rfl) ?_
    refine x_getI C hw fa_X8_15 ta0 dX8_passHour_4 ?_
    refine lv_icmp_ge (tgt := 54) hx hb dX8_passHour_7 (by decide) (fun c => ?_) (fun c => ?_)
    · have hf := ifp hf c
      exact hk54 _ _ _ _ (lv_sub hl [0] rfl) hw hf
    · have hf := ifn hf c
      refine lv_aload_n hx hb dX8_passHour_10 rfl (lv_at hl 0 rfl) ?_
      refine lv_iload_n hx hb dX8_passHour_11 rfl (lv_at hl 1 rfl) ?_
      obtain ⟨o105, m104, cm104, hf⟩ := b2_el (o := f_X8_cellAt a0 x1 mu) hf
      have hmp := hw.2.2.2.2
      refine x_callVq (As := [.int x1]) (rest := []) C hl.1 hw cb_X8_61 cv_X8_cellAt (k_X8_cellAt hw.2.2.2.2 ta0 cm104) ta0 rfl rfl (by decide) ⟨Nat.le_refl _, Nat.le_refl _⟩ rfl (Nat.le_of_ble_eq_true rfl) dX8_passHour_12 (fun H locs hw to105 => ?_)
      have to105 : ∀ b, o105 = some b → (mT m0) b = some (.inl 0) := fun b h => by have q := to105 b h; rw [hmp] at q; exact q
      refine x_astore_nQ (lv' := [(2, va_rf o105), (0, .ref a0), (1, .int x1)]) hx hb dX8_passHour_15 rfl hl (by decide) rfl (fun ls hl => ?_)
      refine x_aload_nQ hx hb dX8_passHour_16 rfl (lv_at hl 0 rfl) ?_
      cases o105 with
      | none =>
        have hf := oc_n hf
        refine lv_ifnullN (tgt := 48) hx hb dX8_passHour_17 (by decide) ?_
        obtain ⟨x107, ex107⟩ : ∃ z : Int32, z = x1 + 1 := ⟨_, rfl⟩
        have hf := nm_el hf ex107
        refine lv_iinc (v := x107) (lv' := [(1, .int x107), (2, .null), (0, .ref a0)]) hx hb dX8_passHour_48 hl (k := 2) rfl (by rw [ex107, ki_1]) (by decide) rfl (fun ls hl => ?_)
        refine lv_goto (tgt := 2) hx hb dX8_passHour_51 (by decide) ?_
        exact ih _ _ _ _ _ (lv_sub hl [2, 0] rfl) hw hf
      | some b106 =>
        have hf := oc_s hf
        have tb106 := to105 b106 rfl
        refine lv_ifnull hx hb dX8_passHour_17 ?_
        refine lv_aload_n hx hb dX8_passHour_20 rfl (lv_at hl 1 rfl) ?_
        refine lv_aload_n hx hb dX8_passHour_21 rfl (lv_at hl 0 rfl) ?_
        refine lv_iload_n hx hb dX8_passHour_22 rfl (lv_at hl 2 rfl) ?_
        refine lv_aload_n hx hb dX8_passHour_23 rfl (lv_at hl 1 rfl) ?_
        refine x_getI C hw fa_X8_24 ta0 dX8_passHour_24 ?_
        refine lv_aload_n hx hb dX8_passHour_27 rfl (lv_at hl 1 rfl) ?_
        refine x_getI C hw fa_X8_9 ta0 dX8_passHour_28 ?_
        obtain ⟨m108, cm108, hf⟩ := b1_el (o := f_X8_warm a0 b106 x1 (mI m104 a0 4) (mI m104 a0 0) m104) hf
        refine x_callVv (As := [.ref b106, .int x1, .int (mI m104 a0 4), .int (mI m104 a0 0)]) (rest := []) C hl.1 hw cb_X8_127 cv_X8_warm (k_X8_warm hw.2.2.2.2 ta0 tb106 cm108) ta0 rfl rfl (by decide) ⟨Nat.le_refl _, Nat.le_refl _⟩ rfl (Nat.le_of_ble_eq_true rfl) dX8_passHour_31 (fun H locs hw tm108 => ?_)
        refine lv_aload_n hx hb dX8_passHour_34 rfl (lv_at hl 1 rfl) ?_
        refine lv_aload_n hx hb dX8_passHour_35 rfl (lv_at hl 0 rfl) ?_
        refine lv_iload_n hx hb dX8_passHour_36 rfl (lv_at hl 2 rfl) ?_
        refine lv_aload_n hx hb dX8_passHour_37 rfl (lv_at hl 1 rfl) ?_
        refine x_getI C hw fa_X8_24 ta0 dX8_passHour_38 ?_
        refine lv_aload_n hx hb dX8_passHour_41 rfl (lv_at hl 1 rfl) ?_
        refine x_getI C hw fa_X8_9 ta0 dX8_passHour_42 ?_
        obtain ⟨m109, cm109, hf⟩ := b1_el (o := f_X8_shine a0 b106 x1 (mI m108 a0 4) (mI m108 a0 0) m108) hf
        refine x_callVv (As := [.ref b106, .int x1, .int (mI m108 a0 4), .int (mI m108 a0 0)]) (rest := []) C hl.1 hw cb_X8_131 cv_X8_shine (k_X8_shine hw.2.2.2.2 ta0 tb106 cm109) ta0 rfl rfl (by decide) ⟨Nat.le_refl _, Nat.le_refl _⟩ rfl (Nat.le_of_ble_eq_true rfl) dX8_passHour_45 (fun H locs hw tm109 => ?_)
        obtain ⟨x110, ex110⟩ : ∃ z : Int32, z = x1 + 1 := ⟨_, rfl⟩
        have hf := nm_el hf ex110
        refine lv_iinc (v := x110) (lv' := [(1, .int x110), (2, .ref b106), (0, .ref a0)]) hx hb dX8_passHour_48 hl (k := 2) rfl (by rw [ex110, ki_1]) (by decide) rfl (fun ls hl => ?_)
        refine lv_goto (tgt := 2) hx hb dX8_passHour_51 (by decide) ?_
        exact ih _ _ _ _ _ (lv_sub hl [2, 0] rfl) hw hf
set_option maxHeartbeats 4000000 in
set_option maxRecDepth 100000 in
theorem k_X8_passHour {l : Launch} {D : va_G} {E : Nat → ClassId} {tU : Nat} {τ : Nat → Option XTy} {a0 : Nat} {m0 mE : XMem} (hm : mT m0 = τ) (ta0 : τ a0 = some (.inl 8)) (hf : f_X8_passHour a0 m0 = some mE) : Ct l yX8_passHour cX8_passHour 3 ((Option.none : Option FieldType)) 6 0 0 D E tU [.ref a0] m0 (none) mE (mT mE = mT m0 ∧ True) := by
  subst hm
  refine Ct.of (by decide) (Nat.le_of_ble_eq_true rfl) (fun p e s m below meth c ls C hr hk hnm hl hw => ?_)
  have hx := C.1
  have hb := C.2.1
  have hl : lv_has ls 3 [(0, .ref a0)] := hl
  unfold f_X8_passHour at hf
  refine lv_iconst hx hb dX8_passHour_0 ki_0 ?_
  refine lv_istore_n (lv' := [(1, .int 0), (0, .ref a0)]) hx hb dX8_passHour_1 rfl hl (by decide) rfl (fun ls hl => ?_)
  refine w_X8_passHour_h2 C hr hk hnm ta0 ?_ 2000 _ _ _ _ _ (lv_sub hl [1, 0] rfl) hw hf
  intro m101 H locs ls hl hw hf
  refine lv_iconst hx hb dX8_passHour_54 ki_0 ?_
  refine lv_istore_n (lv' := [(1, .int 0), (0, .ref a0)]) hx hb dX8_passHour_55 rfl hl (by decide) rfl (fun ls hl => ?_)
  refine w_X8_passHour_h56 C hr hk hnm ta0 ?_ 2000 _ _ _ _ _ (lv_sub hl [1, 0] rfl) hw hf
  intro m102 H locs ls hl hw hf
  refine lv_aload_n hx hb dX8_passHour_85 rfl (lv_at hl 0 rfl) ?_
  refine lv_dup hx hb dX8_passHour_86 rfl ?_
  refine x_getI C hw fa_X8_9 ta0 dX8_passHour_87 ?_
  refine lv_iconst hx hb dX8_passHour_90 ki_1 ?_
  refine lv_iadd hx hb dX8_passHour_91 ?_
  refine x_putI C hw fa_X8_9 ta0 dX8_passHour_92 (fun m103 H locs em103 hw => ?_)
  have hf := nm_el hf em103
  exact x_ret C hr hk hw  hf (by decide) (by decide) dX8_passHour_95
set_option maxHeartbeats 4000000 in
set_option maxRecDepth 100000 in
theorem w_X8_placeInOrder_h24 {p : Program} {l : Launch} {e : Env} {s : State} {m : MethodId} {args : Array Value} {below : List Frame} {meth : Method} {c : Code} {D : va_G} {E : Nat → ClassId} {tU : Nat} {m0 mE : XMem} {rE : Int32} (C : Cx p s m args c cX8_placeInOrder 6 RX8 D E (Am m0) tU) (hr : meth.sig.returnType = ((Option.some FieldType.int))) (hk : meth.locks = false) (hnm : meth.name = yX8_placeInOrder.name) {a0 : Nat} {x1 : Int32} {a2 : Nat} (ta0 : mT m0 a0 = some (.inl 8)) (ta2 : mT m0 a2 = some (.inl 1)) {k87 : Int32 →  XMem → Option (Int32 × XMem)} (hk87 : ∀ (y3 : Int32) (mu : XMem) (H : Heap) (locs : List Loc) (ls : Array Slot), lv_has ls 6 [(3, .int y3)] → Wd D E (Am m0) s (mT m0) mu H locs →   k87 y3 mu = some (rE, mE) → W p l e (rmN 2 0 0) s m args below meth c H locs 0 0 (MQ below (XQ D E (Am m0) (some (.int rE)) mE (mT mE = mT m0 ∧ True)) args s 0 0 (Am m0)) (F0 m 87 ls [])) : ∀ (n : Nat) (x3 : Int32) (x4 : Int32) (mu : XMem) (H : Heap) (locs : List Loc) (ls : Array Slot), lv_has ls 6 [(0, .ref a0), (1, .int x1), (2, .ref a2), (3, .int x3), (4, .int x4)] → Wd D E (Am m0) s (mT m0) mu H locs → f_X8_placeInOrder_h24 a0 x1 a2 k87 n x3 x4 mu = some (rE, mE) → W p l e (rmN 2 0 0) s m args below meth c H locs 0 0 (MQ below (XQ D E (Am m0) (some (.int rE)) mE (mT mE = mT m0 ∧ True)) args s 0 0 (Am m0)) (F0 m 24 ls []) := by
  have hx := C.1
  have hb := C.2.1
  intro n
  induction n with
  | zero =>
    intros
    rename_i hf
    cases hf
  | succ n ih =>
    intro x3 x4 mu H locs ls hl hw hf
    rw [f_X8_placeInOrder_h24] at hf
    refine lv_iload hx hb dX8_placeInOrder_24 (lv_at hl 4 rfl) ?_
    refine lv_aload_n hx hb dX8_placeInOrder_26 rfl (lv_at hl 0 rfl) ?_
    refine x_getI C hw fa_X8_21 ta0 dX8_placeInOrder_27 ?_
    refine lv_icmp_ge (tgt := 87) hx hb dX8_placeInOrder_30 (by decide) (fun c => ?_) (fun c => ?_)
    · have hf := ifp hf c
      exact hk87 _ _ _ _ _ (lv_sub hl [3] rfl) hw hf
    · have hf := ifn hf c
      refine lv_aload_n hx hb dX8_placeInOrder_33 rfl (lv_at hl 0 rfl) ?_
      refine lv_iload hx hb dX8_placeInOrder_34 (lv_at hl 4 rfl) ?_
      obtain ⟨o107, m106, cm106, hf⟩ := b2_el (o := f_X8_houseAt a0 x4 mu) hf
      have hmp := hw.2.2.2.2
      refine x_callVq (As := [.int x4]) (rest := []) C hl.1 hw cb_X8_73 cv_X8_houseAt (k_X8_houseAt hw.2.2.2.2 ta0 cm106) ta0 rfl rfl (by decide) ⟨Nat.le_refl _, Nat.le_refl _⟩ rfl (Nat.le_of_ble_eq_true rfl) dX8_placeInOrder_36 (fun H locs hw to107 => ?_)
      have to107 : ∀ b, o107 = some b → (mT m0) b = some (.inl 1) := fun b h => by have q := to107 b h; rw [hmp] at q; exact q
      refine x_astoreQ (lv' := [(5, va_rf o107), (0, .ref a0), (1, .int x1), (2, .ref a2), (3, .int x3), (4, .int x4)]) hx hb dX8_placeInOrder_39 hl (by decide) rfl (fun ls hl => ?_)
      refine x_aloadQ hx hb dX8_placeInOrder_41 (lv_at hl 0 rfl) ?_
      cases o107 with
      | none =>
        have hf := oc_n hf
        refine lv_ifnullN (tgt := 81) hx hb dX8_placeInOrder_43 (by decide) ?_
        obtain ⟨x109, ex109⟩ : ∃ z : Int32, z = x4 + 1 := ⟨_, rfl⟩
        have hf := nm_el hf ex109
        refine lv_iinc (v := x109) (lv' := [(4, .int x109), (5, .null), (0, .ref a0), (1, .int x1), (2, .ref a2), (3, .int x3)]) hx hb dX8_placeInOrder_81 hl (k := 5) rfl (by rw [ex109, ki_1]) (by decide) rfl (fun ls hl => ?_)
        refine lv_goto (tgt := 24) hx hb dX8_placeInOrder_84 (by decide) ?_
        exact ih _ _ _ _ _ _ (lv_sub hl [2, 3, 4, 5, 0] rfl) hw hf
      | some b108 =>
        have hf := oc_s hf
        have tb108 := to107 b108 rfl
        refine lv_ifnull hx hb dX8_placeInOrder_43 ?_
        refine lv_aload hx hb dX8_placeInOrder_46 (lv_at hl 0 rfl) ?_
        refine x_getI C hw fa_X8_155 tb108 dX8_placeInOrder_48 ?_
        refine lv_if_eq (tgt := 81) hx hb dX8_placeInOrder_51 (by decide) (fun c => ?_) (fun c => ?_)
        · have hf := ifp hf c
          obtain ⟨x110, ex110⟩ : ∃ z : Int32, z = x4 + 1 := ⟨_, rfl⟩
          have hf := nm_el hf ex110
          refine lv_iinc (v := x110) (lv' := [(4, .int x110), (5, .ref b108), (0, .ref a0), (1, .int x1), (2, .ref a2), (3, .int x3)]) hx hb dX8_placeInOrder_81 hl (k := 5) rfl (by rw [ex110, ki_1]) (by decide) rfl (fun ls hl => ?_)
          refine lv_goto (tgt := 24) hx hb dX8_placeInOrder_84 (by decide) ?_
          exact ih _ _ _ _ _ _ (lv_sub hl [2, 3, 4, 5, 0] rfl) hw hf
        · have hf := ifn hf c
          refine lv_aload hx hb dX8_placeInOrder_54 (lv_at hl 0 rfl) ?_
          refine lv_aload_n hx hb dX8_placeInOrder_56 rfl (lv_at hl 3 rfl) ?_
          obtain ⟨r112, m111, cm111, hf⟩ := b2_el (o := f_X1_isBefore b108 a2 m106) hf
          refine x_callVi (As := [.ref a2]) (rest := []) C hl.1 hw cb_X8_158 cv_X1_isBefore (k_X1_isBefore hw.2.2.2.2 tb108 ta2 cm111) tb108 rfl rfl (by decide) ⟨Nat.le_refl _, Nat.le_refl _⟩ rfl (Nat.le_of_ble_eq_true rfl) dX8_placeInOrder_57 (fun H locs hw tr112 => ?_)
          refine lv_if_ne (tgt := 78) hx hb dX8_placeInOrder_60 (by decide) (fun c => ?_) (fun c => ?_)
          · have hf := ifn hf c
            obtain ⟨x113, ex113⟩ : ∃ z : Int32, z = x3 + 1 := ⟨_, rfl⟩
            have hf := nm_el hf ex113
            refine lv_iinc (v := x113) (lv' := [(3, .int x113), (5, .ref b108), (0, .ref a0), (1, .int x1), (2, .ref a2), (4, .int x4)]) hx hb dX8_placeInOrder_78 hl (k := 4) rfl (by rw [ex113, ki_1]) (by decide) rfl (fun ls hl => ?_)
            obtain ⟨x114, ex114⟩ : ∃ z : Int32, z = x4 + 1 := ⟨_, rfl⟩
            have hf := nm_el hf ex114
            refine lv_iinc (v := x114) (lv' := [(4, .int x114), (3, .int x113), (5, .ref b108), (0, .ref a0), (1, .int x1), (2, .ref a2)]) hx hb dX8_placeInOrder_81 hl (k := 5) rfl (by rw [ex114, ki_1]) (by decide) rfl (fun ls hl => ?_)
            refine lv_goto (tgt := 24) hx hb dX8_placeInOrder_84 (by decide) ?_
            exact ih _ _ _ _ _ _ (lv_sub hl [3, 4, 5, 1, 0] rfl) hw hf
          · have hf := ifp hf c
            refine lv_iload hx hb dX8_placeInOrder_63 (lv_at hl 5 rfl) ?_
            refine lv_iload_n hx hb dX8_placeInOrder_65 rfl (lv_at hl 2 rfl) ?_
            refine lv_icmp_ge (tgt := 81) hx hb dX8_placeInOrder_66 (by decide) (fun c => ?_) (fun c => ?_)
            · have hf := ifp hf c
              obtain ⟨x115, ex115⟩ : ∃ z : Int32, z = x4 + 1 := ⟨_, rfl⟩
              have hf := nm_el hf ex115
              refine lv_iinc (v := x115) (lv' := [(4, .int x115), (5, .ref b108), (0, .ref a0), (1, .int x1), (2, .ref a2), (3, .int x3)]) hx hb dX8_placeInOrder_81 hl (k := 5) rfl (by rw [ex115, ki_1]) (by decide) rfl (fun ls hl => ?_)
              refine lv_goto (tgt := 24) hx hb dX8_placeInOrder_84 (by decide) ?_
              exact ih _ _ _ _ _ _ (lv_sub hl [2, 3, 4, 5, 0] rfl) hw hf
            · have hf := ifn hf c
              refine lv_aload_n hx hb dX8_placeInOrder_69 rfl (lv_at hl 3 rfl) ?_
              refine lv_aload hx hb dX8_placeInOrder_70 (lv_at hl 0 rfl) ?_
              obtain ⟨r117, m116, cm116, hf⟩ := b2_el (o := f_X1_isBefore a2 b108 m111) hf
              refine x_callVi (As := [.ref b108]) (rest := []) C hl.1 hw cb_X8_158 cv_X1_isBefore (k_X1_isBefore hw.2.2.2.2 ta2 tb108 cm116) ta2 rfl rfl (by decide) ⟨Nat.le_refl _, Nat.le_refl _⟩ rfl (Nat.le_of_ble_eq_true rfl) dX8_placeInOrder_72 (fun H locs hw tr117 => ?_)
              refine lv_if_ne (tgt := 81) hx hb dX8_placeInOrder_75 (by decide) (fun c => ?_) (fun c => ?_)
              · have hf := ifn hf c
                obtain ⟨x118, ex118⟩ : ∃ z : Int32, z = x4 + 1 := ⟨_, rfl⟩
                have hf := nm_el hf ex118
                refine lv_iinc (v := x118) (lv' := [(4, .int x118), (5, .ref b108), (0, .ref a0), (1, .int x1), (2, .ref a2), (3, .int x3)]) hx hb dX8_placeInOrder_81 hl (k := 5) rfl (by rw [ex118, ki_1]) (by decide) rfl (fun ls hl => ?_)
                refine lv_goto (tgt := 24) hx hb dX8_placeInOrder_84 (by decide) ?_
                exact ih _ _ _ _ _ _ (lv_sub hl [2, 3, 4, 5, 0] rfl) hw hf
              · have hf := ifp hf c
                obtain ⟨x119, ex119⟩ : ∃ z : Int32, z = x3 + 1 := ⟨_, rfl⟩
                have hf := nm_el hf ex119
                refine lv_iinc (v := x119) (lv' := [(3, .int x119), (5, .ref b108), (0, .ref a0), (1, .int x1), (2, .ref a2), (4, .int x4)]) hx hb dX8_placeInOrder_78 hl (k := 4) rfl (by rw [ex119, ki_1]) (by decide) rfl (fun ls hl => ?_)
                obtain ⟨x120, ex120⟩ : ∃ z : Int32, z = x4 + 1 := ⟨_, rfl⟩
                have hf := nm_el hf ex120
                refine lv_iinc (v := x120) (lv' := [(4, .int x120), (3, .int x119), (5, .ref b108), (0, .ref a0), (1, .int x1), (2, .ref a2)]) hx hb dX8_placeInOrder_81 hl (k := 5) rfl (by rw [ex120, ki_1]) (by decide) rfl (fun ls hl => ?_)
                refine lv_goto (tgt := 24) hx hb dX8_placeInOrder_84 (by decide) ?_
                exact ih _ _ _ _ _ _ (lv_sub hl [3, 4, 5, 1, 0] rfl) hw hf
set_option maxHeartbeats 4000000 in
set_option maxRecDepth 100000 in
theorem k_X8_placeInOrder {l : Launch} {D : va_G} {E : Nat → ClassId} {tU : Nat} {τ : Nat → Option XTy} {a0 : Nat} {x1 : Int32} {m0 mE : XMem} {rE : Int32} (hm : mT m0 = τ) (ta0 : τ a0 = some (.inl 8)) (hf : f_X8_placeInOrder a0 x1 m0 = some (rE, mE)) : Ct l yX8_placeInOrder cX8_placeInOrder 6 ((Option.some FieldType.int)) 2 0 0 D E tU [.ref a0, .int x1] m0 (some (.int rE)) mE (mT mE = mT m0 ∧ True) := by
  subst hm
  refine Ct.of (by decide) (Nat.le_of_ble_eq_true rfl) (fun p e s m below meth c ls C hr hk hnm hl hw => ?_)
  have hx := C.1
  have hb := C.2.1
  have hl : lv_has ls 6 [(0, .ref a0), (1, .int x1)] := hl
  unfold f_X8_placeInOrder at hf
  refine lv_aload_n hx hb dX8_placeInOrder_0 rfl (lv_at hl 0 rfl) ?_
  refine lv_iload_n hx hb dX8_placeInOrder_1 rfl (lv_at hl 1 rfl) ?_
  obtain ⟨o102, m101, cm101, hf⟩ := b2_el (o := f_X8_houseAt a0 x1 m0) hf
  have hmp := hw.2.2.2.2
  refine x_callVq (As := [.int x1]) (rest := []) C hl.1 hw cb_X8_73 cv_X8_houseAt (k_X8_houseAt hw.2.2.2.2 ta0 cm101) ta0 rfl rfl (by decide) ⟨Nat.le_refl _, Nat.le_refl _⟩ rfl (Nat.le_of_ble_eq_true rfl) dX8_placeInOrder_2 (fun H locs hw to102 => ?_)
  have to102 : ∀ b, o102 = some b → (mT m0) b = some (.inl 1) := fun b h => by have q := to102 b h; rw [hmp] at q; exact q
  refine x_astore_nQ (lv' := [(2, va_rf o102), (0, .ref a0), (1, .int x1)]) hx hb dX8_placeInOrder_5 rfl hl (by decide) rfl (fun ls hl => ?_)
  refine x_aload_nQ hx hb dX8_placeInOrder_6 rfl (lv_at hl 0 rfl) ?_
  cases o102 with
  | none =>
    have hf := oc_n hf
    refine lv_ifnullN (tgt := 17) hx hb dX8_placeInOrder_7 (by decide) ?_
    refine lv_iconst hx hb dX8_placeInOrder_17 ki_m1 ?_
    exact x_retI C hr hk hw  hf (by decide) (by decide) dX8_placeInOrder_18
  | some b103 =>
    have hf := oc_s hf
    have tb103 := to102 b103 rfl
    refine lv_ifnull hx hb dX8_placeInOrder_7 ?_
    refine lv_aload_n hx hb dX8_placeInOrder_10 rfl (lv_at hl 0 rfl) ?_
    refine x_getI C hw fa_X8_155 tb103 dX8_placeInOrder_11 ?_
    refine lv_if_ne (tgt := 19) hx hb dX8_placeInOrder_14 (by decide) (fun c => ?_) (fun c => ?_)
    · have hf := ifn hf c
      refine lv_iconst hx hb dX8_placeInOrder_19 ki_0 ?_
      refine lv_istore_n (lv' := [(3, .int 0), (2, .ref b103), (0, .ref a0), (1, .int x1)]) hx hb dX8_placeInOrder_20 rfl hl (by decide) rfl (fun ls hl => ?_)
      refine lv_iconst hx hb dX8_placeInOrder_21 ki_0 ?_
      refine lv_istore (lv' := [(4, .int 0), (3, .int 0), (2, .ref b103), (0, .ref a0), (1, .int x1)]) hx hb dX8_placeInOrder_22 hl (by decide) rfl (fun ls hl => ?_)
      refine w_X8_placeInOrder_h24 C hr hk hnm ta0 tb103 ?_ 2000 _ _ _ _ _ _ (lv_sub hl [3, 4, 2, 1, 0] rfl) hw hf
      intro x105 m104 H locs ls hl hw hf
      refine lv_iload_n hx hb dX8_placeInOrder_87 rfl (lv_at hl 0 rfl) ?_
      exact x_retI C hr hk hw  hf (by decide) (by decide) dX8_placeInOrder_88
    · have hf := ifp hf c
      refine lv_iconst hx hb dX8_placeInOrder_17 ki_m1 ?_
      exact x_retI C hr hk hw  hf (by decide) (by decide) dX8_placeInOrder_18
set_option maxHeartbeats 4000000 in
set_option maxRecDepth 100000 in
theorem w_X8_take_h138 {p : Program} {l : Launch} {e : Env} {s : State} {m : MethodId} {args : Array Value} {below : List Frame} {meth : Method} {c : Code} {D : va_G} {E : Nat → ClassId} {tU : Nat} {m0 mE : XMem} (C : Cx p s m args c cX8_take 5 RX8 D E (Am m0) tU) (hr : meth.sig.returnType = ((Option.none : Option FieldType))) (hk : meth.locks = false) (hnm : meth.name = yX8_take.name) {a0 : Nat} {a1 : Nat} (ta0 : mT m0 a0 = some (.inl 8)) (ta1 : mT m0 a1 = some (.inl 8)) {k180 :  XMem → Option (XMem)} (hk180 : ∀  (mu : XMem) (H : Heap) (locs : List Loc) (ls : Array Slot), lv_has ls 5 [] → Wd D E (Am m0) s (mT m0) mu H locs →   k180  mu = some mE → W p l e (rmN 2 0 0) s m args below meth c H locs 0 0 (MQ below (XQ D E (Am m0) (none) mE (mT mE = mT m0 ∧ True)) args s 0 0 (Am m0)) (F0 m 180 ls [])) : ∀ (n : Nat) (x2 : Int32) (mu : XMem) (H : Heap) (locs : List Loc) (ls : Array Slot), lv_has ls 5 [(0, .ref a0), (1, .ref a1), (2, .int x2)] → Wd D E (Am m0) s (mT m0) mu H locs → f_X8_take_h138 a0 a1 k180 n x2 mu = some mE → W p l e (rmN 2 0 0) s m args below meth c H locs 0 0 (MQ below (XQ D E (Am m0) (none) mE (mT mE = mT m0 ∧ True)) args s 0 0 (Am m0)) (F0 m 138 ls []) := by
  have hx := C.1
  have hb := C.2.1
  intro n
  induction n with
  | zero =>
    intros
    rename_i hf
    cases hf
  | succ n ih =>
    intro x2 mu H locs ls hl hw hf
    rw [f_X8_take_h138] at hf
    refine lv_iload_n hx hb dX8_take_138 rfl (lv_at hl 2 rfl) ?_
    refine lv_aload_n hx hb dX8_take_139 rfl (lv_at hl 0 rfl) ?_
    refine x_getI C hw fa_X8_21 ta0 dX8_take_140 ?_
    refine lv_icmp_ge (tgt := 180) hx hb dX8_take_143 (by decide) (fun c => ?_) (fun c => ?_)
    · have hf := ifp hf c
      exact hk180 _ _ _ _ (lv_sub hl [] rfl) hw hf
    · have hf := ifn hf c
      refine lv_aload_n hx hb dX8_take_146 rfl (lv_at hl 0 rfl) ?_
      refine lv_iload_n hx hb dX8_take_147 rfl (lv_at hl 2 rfl) ?_
      obtain ⟨o131, m130, cm130, hf⟩ := b2_el (o := f_X8_houseAt a0 x2 mu) hf
      have hmp := hw.2.2.2.2
      refine x_callVq (As := [.int x2]) (rest := []) C hl.1 hw cb_X8_73 cv_X8_houseAt (k_X8_houseAt hw.2.2.2.2 ta0 cm130) ta0 rfl rfl (by decide) ⟨Nat.le_refl _, Nat.le_refl _⟩ rfl (Nat.le_of_ble_eq_true rfl) dX8_take_148 (fun H locs hw to131 => ?_)
      have to131 : ∀ b, o131 = some b → (mT m0) b = some (.inl 1) := fun b h => by have q := to131 b h; rw [hmp] at q; exact q
      refine x_astore_nQ (lv' := [(3, va_rf o131), (0, .ref a0), (1, .ref a1), (2, .int x2)]) hx hb dX8_take_151 rfl hl (by decide) rfl (fun ls hl => ?_)
      refine lv_aload_n hx hb dX8_take_152 rfl (lv_at hl 2 rfl) ?_
      refine lv_iload_n hx hb dX8_take_153 rfl (lv_at hl 3 rfl) ?_
      obtain ⟨o133, m132, cm132, hf⟩ := b2_el (o := f_X8_houseAt a1 x2 m130) hf
      have hmp := hw.2.2.2.2
      refine x_callVq (As := [.int x2]) (rest := []) C hl.1 hw cb_X8_73 cv_X8_houseAt (k_X8_houseAt hw.2.2.2.2 ta1 cm132) ta1 rfl rfl (by decide) ⟨Nat.le_refl _, Nat.le_refl _⟩ rfl (Nat.le_of_ble_eq_true rfl) dX8_take_154 (fun H locs hw to133 => ?_)
      have to133 : ∀ b, o133 = some b → (mT m0) b = some (.inl 1) := fun b h => by have q := to133 b h; rw [hmp] at q; exact q
      refine x_astoreQ (lv' := [(4, va_rf o133), (3, va_rf o131), (0, .ref a0), (1, .ref a1), (2, .int x2)]) hx hb dX8_take_157 hl (by decide) (by simp [List.filter, va_rfc]) (fun ls hl => ?_)
      refine x_aload_nQ hx hb dX8_take_159 rfl (lv_at hl 1 rfl) ?_
      cases o131 with
      | none =>
        have hf := oc_n hf
        refine lv_ifnullN (tgt := 174) hx hb dX8_take_160 (by decide) ?_
        obtain ⟨x135, ex135⟩ : ∃ z : Int32, z = x2 + 1 := ⟨_, rfl⟩
        have hf := nm_el hf ex135
        refine lv_iinc (v := x135) (lv' := [(2, .int x135), (4, va_rf o133), (3, .null), (0, .ref a0), (1, .ref a1)]) hx hb dX8_take_174 hl (k := 4) rfl (by rw [ex135, ki_1]) (by decide) rfl (fun ls hl => ?_)
        refine lv_goto (tgt := 138) hx hb dX8_take_177 (by decide) ?_
        exact ih _ _ _ _ _ (lv_sub hl [3, 4, 0] rfl) hw hf
      | some b134 =>
        have hf := oc_s hf
        have tb134 := to131 b134 rfl
        refine lv_ifnull hx hb dX8_take_160 ?_
        refine x_aloadQ hx hb dX8_take_163 (lv_at hl 0 rfl) ?_
        cases o133 with
        | none =>
          have hf := oc_n hf
          refine lv_ifnullN (tgt := 174) hx hb dX8_take_165 (by decide) ?_
          obtain ⟨x137, ex137⟩ : ∃ z : Int32, z = x2 + 1 := ⟨_, rfl⟩
          have hf := nm_el hf ex137
          refine lv_iinc (v := x137) (lv' := [(2, .int x137), (4, .null), (3, .ref b134), (0, .ref a0), (1, .ref a1)]) hx hb dX8_take_174 hl (k := 4) rfl (by rw [ex137, ki_1]) (by decide) rfl (fun ls hl => ?_)
          refine lv_goto (tgt := 138) hx hb dX8_take_177 (by decide) ?_
          exact ih _ _ _ _ _ (lv_sub hl [3, 4, 0] rfl) hw hf
        | some b136 =>
          have hf := oc_s hf
          have tb136 := to133 b136 rfl
          refine lv_ifnull hx hb dX8_take_165 ?_
          refine lv_aload_n hx hb dX8_take_168 rfl (lv_at hl 1 rfl) ?_
          refine lv_aload hx hb dX8_take_169 (lv_at hl 0 rfl) ?_
          obtain ⟨m138, cm138, hf⟩ := b1_el (o := f_X1_take b134 b136 m132) hf
          refine x_callVv (As := [.ref b136]) (rest := []) C hl.1 hw cb_X8_77 cv_X1_take (k_X1_take hw.2.2.2.2 tb134 tb136 cm138) tb134 rfl rfl (by decide) ⟨Nat.le_refl _, Nat.le_refl _⟩ rfl (Nat.le_of_ble_eq_true rfl) dX8_take_171 (fun H locs hw tm138 => ?_)
          obtain ⟨x139, ex139⟩ : ∃ z : Int32, z = x2 + 1 := ⟨_, rfl⟩
          have hf := nm_el hf ex139
          refine lv_iinc (v := x139) (lv' := [(2, .int x139), (4, .ref b136), (3, .ref b134), (0, .ref a0), (1, .ref a1)]) hx hb dX8_take_174 hl (k := 4) rfl (by rw [ex139, ki_1]) (by decide) rfl (fun ls hl => ?_)
          refine lv_goto (tgt := 138) hx hb dX8_take_177 (by decide) ?_
          exact ih _ _ _ _ _ (lv_sub hl [3, 4, 0] rfl) hw hf
set_option maxHeartbeats 4000000 in
set_option maxRecDepth 100000 in
theorem w_X8_take_j136 {p : Program} {l : Launch} {e : Env} {s : State} {m : MethodId} {args : Array Value} {below : List Frame} {meth : Method} {c : Code} {D : va_G} {E : Nat → ClassId} {tU : Nat} {m0 mE : XMem} (C : Cx p s m args c cX8_take 5 RX8 D E (Am m0) tU) (hr : meth.sig.returnType = ((Option.none : Option FieldType))) (hk : meth.locks = false) (hnm : meth.name = yX8_take.name) {a0 : Nat} {a1 : Nat} {mu : XMem} {H : Heap} {locs : List Loc} {ls : Array Slot} (ta0 : mT m0 a0 = some (.inl 8)) (ta1 : mT m0 a1 = some (.inl 8)) (hl : lv_has ls 5 [(0, .ref a0), (1, .ref a1)]) (hw : Wd D E (Am m0) s (mT m0) mu H locs) (hf : f_X8_take_j136 a0 a1 mu = some mE) : W p l e (rmN 2 0 0) s m args below meth c H locs 0 0 (MQ below (XQ D E (Am m0) (none) mE (mT mE = mT m0 ∧ True)) args s 0 0 (Am m0)) (F0 m 136 ls []) := by
  have hx := C.1
  have hb := C.2.1
  unfold f_X8_take_j136 at hf
  refine lv_iconst hx hb dX8_take_136 ki_0 ?_
  refine lv_istore_n (lv' := [(2, .int 0), (0, .ref a0), (1, .ref a1)]) hx hb dX8_take_137 rfl hl (by decide) rfl (fun ls hl => ?_)
  refine w_X8_take_h138 C hr hk hnm ta0 ta1 ?_ 2000 _ _ _ _ _ (lv_sub hl [1, 2, 0] rfl) hw hf
  intro m129 H locs ls hl hw hf
  exact x_ret C hr hk hw  hf (by decide) (by decide) dX8_take_180
set_option maxHeartbeats 4000000 in
set_option maxRecDepth 100000 in
theorem w_X8_take_h102 {p : Program} {l : Launch} {e : Env} {s : State} {m : MethodId} {args : Array Value} {below : List Frame} {meth : Method} {c : Code} {D : va_G} {E : Nat → ClassId} {tU : Nat} {m0 mE : XMem} (C : Cx p s m args c cX8_take 5 RX8 D E (Am m0) tU) (hr : meth.sig.returnType = ((Option.none : Option FieldType))) (hk : meth.locks = false) (hnm : meth.name = yX8_take.name) {a0 : Nat} {a1 : Nat} (ta0 : mT m0 a0 = some (.inl 8)) (ta1 : mT m0 a1 = some (.inl 8)) {k136 :  XMem → Option (XMem)} (hk136 : ∀  (mu : XMem) (H : Heap) (locs : List Loc) (ls : Array Slot), lv_has ls 5 [(0, .ref a0), (1, .ref a1)] → Wd D E (Am m0) s (mT m0) mu H locs →   k136  mu = some mE → W p l e (rmN 2 0 0) s m args below meth c H locs 0 0 (MQ below (XQ D E (Am m0) (none) mE (mT mE = mT m0 ∧ True)) args s 0 0 (Am m0)) (F0 m 136 ls [])) : ∀ (n : Nat) (x2 : Int32) (mu : XMem) (H : Heap) (locs : List Loc) (ls : Array Slot), lv_has ls 5 [(0, .ref a0), (1, .ref a1), (2, .int x2)] → Wd D E (Am m0) s (mT m0) mu H locs → f_X8_take_h102 a0 a1 k136 n x2 mu = some mE → W p l e (rmN 2 0 0) s m args below meth c H locs 0 0 (MQ below (XQ D E (Am m0) (none) mE (mT mE = mT m0 ∧ True)) args s 0 0 (Am m0)) (F0 m 102 ls []) := by
  have hx := C.1
  have hb := C.2.1
  intro n
  induction n with
  | zero =>
    intros
    rename_i hf
    cases hf
  | succ n ih =>
    intro x2 mu H locs ls hl hw hf
    rw [f_X8_take_h102] at hf
    refine lv_iload_n hx hb dX8_take_102 rfl (lv_at hl 2 rfl) ?_
    refine lv_aload_n hx hb dX8_take_103 rfl (lv_at hl 0 rfl) ?_
    refine x_getI C hw fa_X8_18 ta0 dX8_take_104 ?_
    refine lv_icmp_ge (tgt := 136) hx hb dX8_take_107 (by decide) (fun c => ?_) (fun c => ?_)
    · have hf := ifp hf c
      exact hk136 _ _ _ _ (lv_sub hl [0, 1] rfl) hw hf
    · have hf := ifn hf c
      refine lv_iload_n hx hb dX8_take_110 rfl (lv_at hl 2 rfl) ?_
      refine lv_aload_n hx hb dX8_take_111 rfl (lv_at hl 0 rfl) ?_
      obtain ⟨b122, eb122, hf⟩ := fo_el hf
      refine x_getR C hw fa_X8_42 (Or.inr ⟨_, rfl⟩) ta0 eb122 dX8_take_112 (fun tb122 => ?_)
      have tb122 : ∃ n, (mT m0) b122 = some (.inr (4, n)) := tb122
      refine x_alen (ek := 4) C hw rfl tb122 dX8_take_115 ?_
      refine lv_icmp_ge (tgt := 136) hx hb dX8_take_116 (by decide) (fun c => ?_) (fun c => ?_)
      · have hf := ifp hf c
        exact hk136 _ _ _ _ (lv_sub hl [0, 1] rfl) hw hf
      · have hf := ifn hf c
        refine lv_aload_n hx hb dX8_take_119 rfl (lv_at hl 0 rfl) ?_
        obtain ⟨b123, eb123, hf⟩ := fo_el hf
        refine x_getR C hw fa_X8_42 (Or.inr ⟨_, rfl⟩) ta0 eb123 dX8_take_120 (fun tb123 => ?_)
        have tb123 : ∃ n, (mT m0) b123 = some (.inr (4, n)) := tb123
        refine lv_iload_n hx hb dX8_take_123 rfl (lv_at hl 2 rfl) ?_
        refine lv_aload_n hx hb dX8_take_124 rfl (lv_at hl 1 rfl) ?_
        refine lv_iload_n hx hb dX8_take_125 rfl (lv_at hl 2 rfl) ?_
        obtain ⟨o125, m124, cm124, hf⟩ := b2_el (o := f_X8_lawAt a1 x2 mu) hf
        have hmp := hw.2.2.2.2
        refine x_callVq (As := [.int x2]) (rest := [.int x2, .ref b123]) C hl.1 hw cb_X8_69 cv_X8_lawAt (k_X8_lawAt hw.2.2.2.2 ta1 cm124) ta1 rfl rfl (by decide) ⟨Nat.le_refl _, Nat.le_refl _⟩ rfl (Nat.le_of_ble_eq_true rfl) dX8_take_126 (fun H locs hw to125 => ?_)
        have to125 : ∀ b, o125 = some b → (mT m0) b = some (.inl 2) := fun b h => by have q := to125 b h; rw [hmp] at q; exact q
        obtain ⟨g126, hf⟩ := gd_el hf
        refine x_aast (k := 1) (o := o125) C hw rfl rfl rfl tb123 to125 g126 dX8_take_129 (fun m127 H locs em127 hw => ?_)
        have hf := nm_el hf em127
        obtain ⟨x128, ex128⟩ : ∃ z : Int32, z = x2 + 1 := ⟨_, rfl⟩
        have hf := nm_el hf ex128
        refine lv_iinc (v := x128) (lv' := [(2, .int x128), (0, .ref a0), (1, .ref a1)]) hx hb dX8_take_130 hl (k := 2) rfl (by rw [ex128, ki_1]) (by decide) rfl (fun ls hl => ?_)
        refine lv_goto (tgt := 102) hx hb dX8_take_133 (by decide) ?_
        exact ih _ _ _ _ _ (lv_sub hl [1, 2, 0] rfl) hw hf
set_option maxHeartbeats 4000000 in
set_option maxRecDepth 100000 in
theorem w_X8_take_h58 {p : Program} {l : Launch} {e : Env} {s : State} {m : MethodId} {args : Array Value} {below : List Frame} {meth : Method} {c : Code} {D : va_G} {E : Nat → ClassId} {tU : Nat} {m0 mE : XMem} (C : Cx p s m args c cX8_take 5 RX8 D E (Am m0) tU) (hr : meth.sig.returnType = ((Option.none : Option FieldType))) (hk : meth.locks = false) (hnm : meth.name = yX8_take.name) {a0 : Nat} {a1 : Nat} (ta0 : mT m0 a0 = some (.inl 8)) (ta1 : mT m0 a1 = some (.inl 8)) {k100 :  XMem → Option (XMem)} (hk100 : ∀  (mu : XMem) (H : Heap) (locs : List Loc) (ls : Array Slot), lv_has ls 5 [(0, .ref a0), (1, .ref a1)] → Wd D E (Am m0) s (mT m0) mu H locs →   k100  mu = some mE → W p l e (rmN 2 0 0) s m args below meth c H locs 0 0 (MQ below (XQ D E (Am m0) (none) mE (mT mE = mT m0 ∧ True)) args s 0 0 (Am m0)) (F0 m 100 ls [])) : ∀ (n : Nat) (x2 : Int32) (mu : XMem) (H : Heap) (locs : List Loc) (ls : Array Slot), lv_has ls 5 [(0, .ref a0), (1, .ref a1), (2, .int x2)] → Wd D E (Am m0) s (mT m0) mu H locs → f_X8_take_h58 a0 a1 k100 n x2 mu = some mE → W p l e (rmN 2 0 0) s m args below meth c H locs 0 0 (MQ below (XQ D E (Am m0) (none) mE (mT mE = mT m0 ∧ True)) args s 0 0 (Am m0)) (F0 m 58 ls []) := by
  have hx := C.1
  have hb := C.2.1
  intro n
  induction n with
  | zero =>
    intros
    rename_i hf
    cases hf
  | succ n ih =>
    intro x2 mu H locs ls hl hw hf
    rw [f_X8_take_h58] at hf
    refine lv_iload_n hx hb dX8_take_58 rfl (lv_at hl 2 rfl) ?_
    refine lv_aload_n hx hb dX8_take_59 rfl (lv_at hl 0 rfl) ?_
    refine x_getI C hw fa_X8_15 ta0 dX8_take_60 ?_
    refine lv_icmp_ge (tgt := 100) hx hb dX8_take_63 (by decide) (fun c => ?_) (fun c => ?_)
    · have hf := ifp hf c
      exact hk100 _ _ _ _ (lv_sub hl [0, 1] rfl) hw hf
    · have hf := ifn hf c
      refine lv_aload_n hx hb dX8_take_66 rfl (lv_at hl 0 rfl) ?_
      refine lv_iload_n hx hb dX8_take_67 rfl (lv_at hl 2 rfl) ?_
      obtain ⟨o113, m112, cm112, hf⟩ := b2_el (o := f_X8_cellAt a0 x2 mu) hf
      have hmp := hw.2.2.2.2
      refine x_callVq (As := [.int x2]) (rest := []) C hl.1 hw cb_X8_61 cv_X8_cellAt (k_X8_cellAt hw.2.2.2.2 ta0 cm112) ta0 rfl rfl (by decide) ⟨Nat.le_refl _, Nat.le_refl _⟩ rfl (Nat.le_of_ble_eq_true rfl) dX8_take_68 (fun H locs hw to113 => ?_)
      have to113 : ∀ b, o113 = some b → (mT m0) b = some (.inl 0) := fun b h => by have q := to113 b h; rw [hmp] at q; exact q
      refine x_astore_nQ (lv' := [(3, va_rf o113), (0, .ref a0), (1, .ref a1), (2, .int x2)]) hx hb dX8_take_71 rfl hl (by decide) rfl (fun ls hl => ?_)
      refine lv_aload_n hx hb dX8_take_72 rfl (lv_at hl 2 rfl) ?_
      refine lv_iload_n hx hb dX8_take_73 rfl (lv_at hl 3 rfl) ?_
      obtain ⟨o115, m114, cm114, hf⟩ := b2_el (o := f_X8_cellAt a1 x2 m112) hf
      have hmp := hw.2.2.2.2
      refine x_callVq (As := [.int x2]) (rest := []) C hl.1 hw cb_X8_61 cv_X8_cellAt (k_X8_cellAt hw.2.2.2.2 ta1 cm114) ta1 rfl rfl (by decide) ⟨Nat.le_refl _, Nat.le_refl _⟩ rfl (Nat.le_of_ble_eq_true rfl) dX8_take_74 (fun H locs hw to115 => ?_)
      have to115 : ∀ b, o115 = some b → (mT m0) b = some (.inl 0) := fun b h => by have q := to115 b h; rw [hmp] at q; exact q
      refine x_astoreQ (lv' := [(4, va_rf o115), (3, va_rf o113), (0, .ref a0), (1, .ref a1), (2, .int x2)]) hx hb dX8_take_77 hl (by decide) (by simp [List.filter, va_rfc]) (fun ls hl => ?_)
      refine x_aload_nQ hx hb dX8_take_79 rfl (lv_at hl 1 rfl) ?_
      cases o113 with
      | none =>
        have hf := oc_n hf
        refine lv_ifnullN (tgt := 94) hx hb dX8_take_80 (by decide) ?_
        obtain ⟨x117, ex117⟩ : ∃ z : Int32, z = x2 + 1 := ⟨_, rfl⟩
        have hf := nm_el hf ex117
        refine lv_iinc (v := x117) (lv' := [(2, .int x117), (4, va_rf o115), (3, .null), (0, .ref a0), (1, .ref a1)]) hx hb dX8_take_94 hl (k := 4) rfl (by rw [ex117, ki_1]) (by decide) rfl (fun ls hl => ?_)
        refine lv_goto (tgt := 58) hx hb dX8_take_97 (by decide) ?_
        exact ih _ _ _ _ _ (lv_sub hl [3, 4, 0] rfl) hw hf
      | some b116 =>
        have hf := oc_s hf
        have tb116 := to113 b116 rfl
        refine lv_ifnull hx hb dX8_take_80 ?_
        refine x_aloadQ hx hb dX8_take_83 (lv_at hl 0 rfl) ?_
        cases o115 with
        | none =>
          have hf := oc_n hf
          refine lv_ifnullN (tgt := 94) hx hb dX8_take_85 (by decide) ?_
          obtain ⟨x119, ex119⟩ : ∃ z : Int32, z = x2 + 1 := ⟨_, rfl⟩
          have hf := nm_el hf ex119
          refine lv_iinc (v := x119) (lv' := [(2, .int x119), (4, .null), (3, .ref b116), (0, .ref a0), (1, .ref a1)]) hx hb dX8_take_94 hl (k := 4) rfl (by rw [ex119, ki_1]) (by decide) rfl (fun ls hl => ?_)
          refine lv_goto (tgt := 58) hx hb dX8_take_97 (by decide) ?_
          exact ih _ _ _ _ _ (lv_sub hl [3, 4, 0] rfl) hw hf
        | some b118 =>
          have hf := oc_s hf
          have tb118 := to115 b118 rfl
          refine lv_ifnull hx hb dX8_take_85 ?_
          refine lv_aload_n hx hb dX8_take_88 rfl (lv_at hl 1 rfl) ?_
          refine lv_aload hx hb dX8_take_89 (lv_at hl 0 rfl) ?_
          obtain ⟨m120, cm120, hf⟩ := b1_el (o := f_X0_take b116 b118 m114) hf
          refine x_callVv (As := [.ref b118]) (rest := []) C hl.1 hw cb_X8_65 cv_X0_take (k_X0_take hw.2.2.2.2 tb116 tb118 cm120) tb116 rfl rfl (by decide) ⟨Nat.le_refl _, Nat.le_refl _⟩ rfl (Nat.le_of_ble_eq_true rfl) dX8_take_91 (fun H locs hw tm120 => ?_)
          obtain ⟨x121, ex121⟩ : ∃ z : Int32, z = x2 + 1 := ⟨_, rfl⟩
          have hf := nm_el hf ex121
          refine lv_iinc (v := x121) (lv' := [(2, .int x121), (4, .ref b118), (3, .ref b116), (0, .ref a0), (1, .ref a1)]) hx hb dX8_take_94 hl (k := 4) rfl (by rw [ex121, ki_1]) (by decide) rfl (fun ls hl => ?_)
          refine lv_goto (tgt := 58) hx hb dX8_take_97 (by decide) ?_
          exact ih _ _ _ _ _ (lv_sub hl [3, 4, 0] rfl) hw hf
set_option maxHeartbeats 4000000 in
set_option maxRecDepth 100000 in
theorem k_X8_take {l : Launch} {D : va_G} {E : Nat → ClassId} {tU : Nat} {τ : Nat → Option XTy} {a0 : Nat} {a1 : Nat} {m0 mE : XMem} (hm : mT m0 = τ) (ta0 : τ a0 = some (.inl 8)) (ta1 : τ a1 = some (.inl 8)) (hf : f_X8_take a0 a1 m0 = some mE) : Ct l yX8_take cX8_take 5 ((Option.none : Option FieldType)) 2 0 0 D E tU [.ref a0, .ref a1] m0 (none) mE (mT mE = mT m0 ∧ True) := by
  subst hm
  refine Ct.of (by decide) (Nat.le_of_ble_eq_true rfl) (fun p e s m below meth c ls C hr hk hnm hl hw => ?_)
  have hx := C.1
  have hb := C.2.1
  have hl : lv_has ls 5 [(0, .ref a0), (1, .ref a1)] := hl
  unfold f_X8_take at hf
  refine lv_aload_n hx hb dX8_take_0 rfl (lv_at hl 0 rfl) ?_
  refine lv_aload_n hx hb dX8_take_1 rfl (lv_at hl 1 rfl) ?_
  refine x_getI C hw fa_X8_9 ta1 dX8_take_2 ?_
  refine x_putI C hw fa_X8_9 ta0 dX8_take_5 (fun m101 H locs em101 hw => ?_)
  have hf := nm_el hf em101
  refine lv_aload_n hx hb dX8_take_8 rfl (lv_at hl 0 rfl) ?_
  refine lv_aload_n hx hb dX8_take_9 rfl (lv_at hl 1 rfl) ?_
  refine x_getI C hw fa_X8_15 ta1 dX8_take_10 ?_
  refine x_putI C hw fa_X8_15 ta0 dX8_take_13 (fun m102 H locs em102 hw => ?_)
  have hf := nm_el hf em102
  refine lv_aload_n hx hb dX8_take_16 rfl (lv_at hl 0 rfl) ?_
  refine lv_aload_n hx hb dX8_take_17 rfl (lv_at hl 1 rfl) ?_
  refine x_getI C hw fa_X8_18 ta1 dX8_take_18 ?_
  refine x_putI C hw fa_X8_18 ta0 dX8_take_21 (fun m103 H locs em103 hw => ?_)
  have hf := nm_el hf em103
  refine lv_aload_n hx hb dX8_take_24 rfl (lv_at hl 0 rfl) ?_
  refine lv_aload_n hx hb dX8_take_25 rfl (lv_at hl 1 rfl) ?_
  refine x_getI C hw fa_X8_21 ta1 dX8_take_26 ?_
  refine x_putI C hw fa_X8_21 ta0 dX8_take_29 (fun m104 H locs em104 hw => ?_)
  have hf := nm_el hf em104
  refine lv_aload_n hx hb dX8_take_32 rfl (lv_at hl 0 rfl) ?_
  refine lv_aload_n hx hb dX8_take_33 rfl (lv_at hl 1 rfl) ?_
  refine x_getI C hw fa_X8_24 ta1 dX8_take_34 ?_
  refine x_putI C hw fa_X8_24 ta0 dX8_take_37 (fun m105 H locs em105 hw => ?_)
  have hf := nm_el hf em105
  refine lv_aload_n hx hb dX8_take_40 rfl (lv_at hl 0 rfl) ?_
  refine lv_aload_n hx hb dX8_take_41 rfl (lv_at hl 1 rfl) ?_
  refine x_getQ C hw fa_X8_27 (Or.inl ⟨_, rfl⟩) ta1 dX8_take_42 ?_
  refine lv_topq (fun o106 eo106 => ?_)
  have hf := nm_el hf eo106
  have to106 : ∀ b, o106 = some b → (mT m0) b = some (.inl 6) := fun b h => xo_keep hw ta1 5 b (eo106.symm.trans h)
  refine x_putQ (o := o106) C hw fa_X8_27 (Or.inl ⟨_, rfl⟩) ta0 to106 dX8_take_45 (fun m107 H locs em107 hw => ?_)
  have hf := nm_el hf em107
  refine lv_aload_n hx hb dX8_take_48 rfl (lv_at hl 0 rfl) ?_
  refine lv_aload_n hx hb dX8_take_49 rfl (lv_at hl 1 rfl) ?_
  refine x_getQ C hw fa_X8_31 (Or.inl ⟨_, rfl⟩) ta1 dX8_take_50 ?_
  refine lv_topq (fun o108 eo108 => ?_)
  have hf := nm_el hf eo108
  have to108 : ∀ b, o108 = some b → (mT m0) b = some (.inl 6) := fun b h => xo_keep hw ta1 6 b (eo108.symm.trans h)
  refine x_putQ (o := o108) C hw fa_X8_31 (Or.inl ⟨_, rfl⟩) ta0 to108 dX8_take_53 (fun m109 H locs em109 hw => ?_)
  have hf := nm_el hf em109
  refine lv_iconst hx hb dX8_take_56 ki_0 ?_
  refine lv_istore_n (lv' := [(2, .int 0), (0, .ref a0), (1, .ref a1)]) hx hb dX8_take_57 rfl hl (by decide) rfl (fun ls hl => ?_)
  refine w_X8_take_h58 C hr hk hnm ta0 ta1 ?_ 2000 _ _ _ _ _ (lv_sub hl [1, 2, 0] rfl) hw hf
  intro m110 H locs ls hl hw hf
  refine lv_iconst hx hb dX8_take_100 ki_0 ?_
  refine lv_istore_n (lv' := [(2, .int 0), (0, .ref a0), (1, .ref a1)]) hx hb dX8_take_101 rfl hl (by decide) rfl (fun ls hl => ?_)
  refine w_X8_take_h102 C hr hk hnm ta0 ta1 ?_ 2000 _ _ _ _ _ (lv_sub hl [1, 2, 0] rfl) hw hf
  intro m111 H locs ls hl hw hf
  exact w_X8_take_j136 C hr hk hnm ta0 ta1 (lv_sub hl [0, 1] rfl) hw hf
set_option maxHeartbeats 4000000 in
set_option maxRecDepth 100000 in
theorem k_X8_toldBy {l : Launch} {D : va_G} {E : Nat → ClassId} {tU : Nat} {τ : Nat → Option XTy} {a0 : Nat} {a1 : Nat} {a2 : Nat} {x3 : Int32} {x4 : Int32} {m0 mE : XMem} {rE : Int32} (hm : mT m0 = τ) (ta0 : τ a0 = some (.inl 8)) (ta1 : τ a1 = some (.inl 2)) (ta2 : τ a2 = some (.inl 0)) (hf : f_X8_toldBy a0 a1 a2 x3 x4 m0 = some (rE, mE)) : Ct l yX8_toldBy cX8_toldBy 5 ((Option.some FieldType.int)) 4 0 0 D E tU [.ref a0, .ref a1, .ref a2, .int x3, .int x4] m0 (some (.int rE)) mE (mT mE = mT m0 ∧ True) := by
  subst hm
  refine Ct.of (by decide) (Nat.le_of_ble_eq_true rfl) (fun p e s m below meth c ls C hr hk hnm hl hw => ?_)
  have hx := C.1
  have hb := C.2.1
  have hl : lv_has ls 5 [(0, .ref a0), (1, .ref a1), (2, .ref a2), (3, .int x3), (4, .int x4)] := hl
  unfold f_X8_toldBy at hf
  refine lv_aload_n hx hb dX8_toldBy_0 rfl (lv_at hl 0 rfl) ?_
  obtain ⟨b101, eb101, hf⟩ := fo_el hf
  refine x_getR C hw fa_X8_55 (Or.inl ⟨_, rfl⟩) ta0 eb101 dX8_toldBy_1 (fun tb101 => ?_)
  have tb101 : (mT m0) b101 = some (.inl 7) := tb101
  refine lv_aload_n hx hb dX8_toldBy_4 rfl (lv_at hl 1 rfl) ?_
  obtain ⟨b102, eb102, hf⟩ := fo_el hf
  refine x_getR C hw fa_X8_91 (Or.inl ⟨_, rfl⟩) ta1 eb102 dX8_toldBy_5 (fun tb102 => ?_)
  have tb102 : (mT m0) b102 = some (.inl 6) := tb102
  refine lv_aload_n hx hb dX8_toldBy_8 rfl (lv_at hl 2 rfl) ?_
  refine lv_aload_n hx hb dX8_toldBy_9 rfl (lv_at hl 2 rfl) ?_
  obtain ⟨r104, m103, cm103, hf⟩ := b2_el (o := f_X0_warmth a2 m0) hf
  refine x_callVi (As := []) (rest := [.ref a2, .ref b102, .ref b101]) C hl.1 hw cb_X8_80 cv_X0_warmth (k_X0_warmth hw.2.2.2.2 ta2 cm103) ta2 rfl rfl (by decide) ⟨Nat.le_refl _, Nat.le_refl _⟩ rfl (Nat.le_of_ble_eq_true rfl) dX8_toldBy_10 (fun H locs hw tr104 => ?_)
  refine lv_iload hx hb dX8_toldBy_13 (lv_at hl 4 rfl) ?_
  refine lv_iload_n hx hb dX8_toldBy_15 rfl (lv_at hl 3 rfl) ?_
  obtain ⟨r106, m105, cm105, hf⟩ := b2_el (o := f_X7_worked b101 b102 a2 r104 x4 x3 m103) hf
  refine x_callVi (As := [.ref b102, .ref a2, .int r104, .int x4, .int x3]) (rest := []) C hl.1 hw cb_X8_84 cv_X7_worked (k_X7_worked hw.2.2.2.2 tb101 tb102 ta2 cm105) tb101 rfl rfl (by decide) ⟨Nat.le_refl _, Nat.le_refl _⟩ rfl (Nat.le_of_ble_eq_true rfl) dX8_toldBy_16 (fun H locs hw tr106 => ?_)
  exact x_retI C hr hk hw  hf (by decide) (by decide) dX8_toldBy_19
set_option maxHeartbeats 4000000 in
set_option maxRecDepth 100000 in
theorem k_X9_apart {l : Launch} {D : va_G} {E : Nat → ClassId} {tU : Nat} {τ : Nat → Option XTy} {x0 : Int32} {x1 : Int32} {m0 mE : XMem} {rE : Int64} (hm : mT m0 = τ)  (hf : f_X9_apart x0 x1 m0 = some (rE, mE)) : Ct l yX9_apart cX9_apart 2 ((Option.some FieldType.long)) 1 0 0 D E tU [.int x0, .int x1] m0 (some (.long rE)) mE (mT mE = mT m0 ∧ True) := by
  subst hm
  refine Ct.of (by decide) (Nat.le_of_ble_eq_true rfl) (fun p e s m below meth c ls C hr hk hnm hl hw => ?_)
  have hx := C.1
  have hb := C.2.1
  have hl : lv_has ls 2 [(0, .int x0), (1, .int x1)] := hl
  unfold f_X9_apart at hf
  refine lv_iload_n hx hb dX9_apart_0 rfl (lv_at hl 0 rfl) ?_
  refine lv_i2l (v := (Int32.toInt64 x0)) hx hb dX9_apart_1 rfl ?_
  refine lv_iload_n hx hb dX9_apart_2 rfl (lv_at hl 1 rfl) ?_
  refine lv_i2l (v := (Int32.toInt64 x1)) hx hb dX9_apart_3 rfl ?_
  refine lv_lsub hx hb dX9_apart_4 ?_
  refine x_mabsL C hl.1 km_X9_362 (by decide) (Nat.le_of_ble_eq_true rfl) (by decide) (Nat.zero_le _) (Nat.zero_le _) dX9_apart_5 ?_
  refine lv_topl (fun l101 el101 => ?_)
  have hf := nm_el hf el101
  exact x_retL C hr hk hw  hf (by decide) (by decide) dX9_apart_8
set_option maxHeartbeats 4000000 in
set_option maxRecDepth 100000 in
theorem k_X9_within {l : Launch} {D : va_G} {E : Nat → ClassId} {tU : Nat} {τ : Nat → Option XTy} {x0 : Int32} {x1 : Int32} {x2 : Int32} {m0 mE : XMem} {rE : Int32} (hm : mT m0 = τ)  (hf : f_X9_within x0 x1 x2 m0 = some (rE, mE)) : Ct l yX9_within cX9_within 3 ((Option.some FieldType.boolean)) 1 0 0 D E tU [.int x0, .int x1, .int x2] m0 (some (.int rE)) mE (mT mE = mT m0 ∧ (rE = 0 ∨ rE = 1)) := by
  subst hm
  refine Ct.of (by decide) (Nat.le_of_ble_eq_true rfl) (fun p e s m below meth c ls C hr hk hnm hl hw => ?_)
  have hx := C.1
  have hb := C.2.1
  have hl : lv_has ls 3 [(0, .int x0), (1, .int x1), (2, .int x2)] := hl
  unfold f_X9_within at hf
  refine lv_iload_n hx hb dX9_within_0 rfl (lv_at hl 0 rfl) ?_
  refine lv_iload_n hx hb dX9_within_1 rfl (lv_at hl 1 rfl) ?_
  refine lv_icmp_lt (tgt := 14) hx hb dX9_within_2 (by decide) (fun c => ?_) (fun c => ?_)
  · have hf := ifp hf c
    refine lv_iconst hx hb dX9_within_14 ki_0 ?_
    exact x_retZ C hr hk (Or.inl rfl) hw  hf (by decide) (by decide) dX9_within_15
  · have hf := ifn hf c
    refine lv_iload_n hx hb dX9_within_5 rfl (lv_at hl 0 rfl) ?_
    refine lv_iload_n hx hb dX9_within_6 rfl (lv_at hl 2 rfl) ?_
    refine lv_icmp_gt (tgt := 14) hx hb dX9_within_7 (by decide) (fun c => ?_) (fun c => ?_)
    · have hf := ifp hf c
      refine lv_iconst hx hb dX9_within_14 ki_0 ?_
      exact x_retZ C hr hk (Or.inl rfl) hw  hf (by decide) (by decide) dX9_within_15
    · have hf := ifn hf c
      refine lv_iconst hx hb dX9_within_10 ki_1 ?_
      refine lv_goto (tgt := 15) hx hb dX9_within_11 (by decide) ?_
      exact x_retZ C hr hk (Or.inr rfl) hw  hf (by decide) (by decide) dX9_within_15
set_option maxHeartbeats 4000000 in
set_option maxRecDepth 100000 in
theorem k_X9_finding {l : Launch} {D : va_G} {E : Nat → ClassId} {tU : Nat} {τ : Nat → Option XTy} {a0 : Nat} {x1 : Int32} {m0 mE : XMem} {rE : Int32} (hm : mT m0 = τ) (ta0 : τ a0 = some (.inl 9)) (hf : f_X9_finding a0 x1 m0 = some (rE, mE)) : Ct l yX9_finding cX9_finding 2 ((Option.some FieldType.int)) 1 0 0 D E tU [.ref a0, .int x1] m0 (some (.int rE)) mE (mT mE = mT m0 ∧ True) := by
  subst hm
  refine Ct.of (by decide) (Nat.le_of_ble_eq_true rfl) (fun p e s m below meth c ls C hr hk hnm hl hw => ?_)
  have hx := C.1
  have hb := C.2.1
  have hl : lv_has ls 2 [(0, .ref a0), (1, .int x1)] := hl
  unfold f_X9_finding at hf
  refine lv_iload_n hx hb dX9_finding_0 rfl (lv_at hl 1 rfl) ?_
  refine lv_if_lt (tgt := 23) hx hb dX9_finding_1 (by decide) (fun c => ?_) (fun c => ?_)
  · have hf := ifp hf c
    refine lv_ldcw hx hb C.2.2.2.1 (C.2.2.2.2.1 _ ki_X9_351) dX9_finding_23 ?_
    refine lv_iload_n hx hb dX9_finding_26 rfl (lv_at hl 1 rfl) ?_
    refine lv_isub hx hb dX9_finding_27 ?_
    exact x_retI C hr hk hw  hf (by decide) (by decide) dX9_finding_28
  · have hf := ifn hf c
    refine lv_iload_n hx hb dX9_finding_4 rfl (lv_at hl 1 rfl) ?_
    refine lv_aload_n hx hb dX9_finding_5 rfl (lv_at hl 0 rfl) ?_
    obtain ⟨b101, eb101, hf⟩ := fo_el hf
    refine x_getR C hw fa_X9_43 (Or.inr ⟨_, rfl⟩) ta0 eb101 dX9_finding_6 (fun tb101 => ?_)
    have tb101 : ∃ n, (mT m0) b101 = some (.inr (0, n)) := tb101
    refine x_alen (ek := 0) C hw rfl tb101 dX9_finding_9 ?_
    refine lv_icmp_ge (tgt := 23) hx hb dX9_finding_10 (by decide) (fun c => ?_) (fun c => ?_)
    · have hf := ifp hf c
      refine lv_ldcw hx hb C.2.2.2.1 (C.2.2.2.2.1 _ ki_X9_351) dX9_finding_23 ?_
      refine lv_iload_n hx hb dX9_finding_26 rfl (lv_at hl 1 rfl) ?_
      refine lv_isub hx hb dX9_finding_27 ?_
      exact x_retI C hr hk hw  hf (by decide) (by decide) dX9_finding_28
    · have hf := ifn hf c
      refine lv_aload_n hx hb dX9_finding_13 rfl (lv_at hl 0 rfl) ?_
      obtain ⟨b102, eb102, hf⟩ := fo_el hf
      refine x_getR C hw fa_X9_43 (Or.inr ⟨_, rfl⟩) ta0 eb102 dX9_finding_14 (fun tb102 => ?_)
      have tb102 : ∃ n, (mT m0) b102 = some (.inr (0, n)) := tb102
      refine lv_iload_n hx hb dX9_finding_17 rfl (lv_at hl 1 rfl) ?_
      refine lv_dup2_11 hx hb dX9_finding_18 rfl rfl ?_
      obtain ⟨g103, hf⟩ := gd_el hf
      refine x_iald C hw tb102 g103 dX9_finding_19 ?_
      refine lv_iconst hx hb dX9_finding_20 ki_1 ?_
      refine lv_iadd hx hb dX9_finding_21 ?_
      obtain ⟨g104, hf⟩ := gd_el hf
      refine x_iast C hw tb102 g104 dX9_finding_22 (fun m105 H locs em105 hw => ?_)
      have hf := nm_el hf em105
      refine lv_ldcw hx hb C.2.2.2.1 (C.2.2.2.2.1 _ ki_X9_351) dX9_finding_23 ?_
      refine lv_iload_n hx hb dX9_finding_26 rfl (lv_at hl 1 rfl) ?_
      refine lv_isub hx hb dX9_finding_27 ?_
      exact x_retI C hr hk hw  hf (by decide) (by decide) dX9_finding_28
set_option maxHeartbeats 4000000 in
set_option maxRecDepth 100000 in
theorem w_X9_isUnder_h4 {p : Program} {l : Launch} {e : Env} {s : State} {m : MethodId} {args : Array Value} {below : List Frame} {meth : Method} {c : Code} {D : va_G} {E : Nat → ClassId} {tU : Nat} {m0 mE : XMem} {rE : Int32} (C : Cx p s m args c cX9_isUnder 4 RX9 D E (Am m0) tU) (hr : meth.sig.returnType = ((Option.some FieldType.boolean))) (hk : meth.locks = false) (hnm : meth.name = yX9_isUnder.name) {x1 : Int32}  {k27 :  XMem → Option (Int32 × XMem)} {k41 :  XMem → Option (Int32 × XMem)} (hk27 : ∀  (mu : XMem) (H : Heap) (locs : List Loc) (ls : Array Slot), lv_has ls 4 [] → Wd D E (Am m0) s (mT m0) mu H locs →   k27  mu = some (rE, mE) → W p l e (rmN 1 0 0) s m args below meth c H locs 0 0 (MQ below (XQ D E (Am m0) (some (.int rE)) mE (mT mE = mT m0 ∧ (rE = 0 ∨ rE = 1))) args s 0 0 (Am m0)) (F0 m 27 ls [])) (hk41 : ∀  (mu : XMem) (H : Heap) (locs : List Loc) (ls : Array Slot), lv_has ls 4 [] → Wd D E (Am m0) s (mT m0) mu H locs →   k41  mu = some (rE, mE) → W p l e (rmN 1 0 0) s m args below meth c H locs 0 0 (MQ below (XQ D E (Am m0) (some (.int rE)) mE (mT mE = mT m0 ∧ (rE = 0 ∨ rE = 1))) args s 0 0 (Am m0)) (F0 m 41 ls [])) : ∀ (n : Nat) (x2 : Int32) (x3 : Int32) (mu : XMem) (H : Heap) (locs : List Loc) (ls : Array Slot), lv_has ls 4 [(1, .int x1), (2, .int x2), (3, .int x3)] → Wd D E (Am m0) s (mT m0) mu H locs → f_X9_isUnder_h4 x1 k27 k41 n x2 x3 mu = some (rE, mE) → W p l e (rmN 1 0 0) s m args below meth c H locs 0 0 (MQ below (XQ D E (Am m0) (some (.int rE)) mE (mT mE = mT m0 ∧ (rE = 0 ∨ rE = 1))) args s 0 0 (Am m0)) (F0 m 4 ls []) := by
  have hx := C.1
  have hb := C.2.1
  intro n
  induction n with
  | zero =>
    intros
    rename_i hf
    cases hf
  | succ n ih =>
    intro x2 x3 mu H locs ls hl hw hf
    rw [f_X9_isUnder_h4] at hf
    refine lv_iload_n hx hb dX9_isUnder_4 rfl (lv_at hl 2 rfl) ?_
    refine lv_bipush hx hb dX9_isUnder_5 kb_6 ?_
    refine lv_icmp_ge (tgt := 41) hx hb dX9_isUnder_7 (by decide) (fun c => ?_) (fun c => ?_)
    · have hf := ifp hf c
      exact hk41 _ _ _ _ (lv_sub hl [] rfl) hw hf
    · have hf := ifn hf c
      refine lv_iload_n hx hb dX9_isUnder_10 rfl (lv_at hl 1 rfl) ?_
      refine lv_if_lt (tgt := 41) hx hb dX9_isUnder_11 (by decide) (fun c => ?_) (fun c => ?_)
      · have hf := ifp hf c
        exact hk41 _ _ _ _ (lv_sub hl [] rfl) hw hf
      · have hf := ifn hf c
        refine lv_iload_n hx hb dX9_isUnder_14 rfl (lv_at hl 1 rfl) ?_
        refine x_gets C hw ku_359 dX9_isUnder_15 ?_
        refine x_slen C hw dX9_isUnder_18 ?_
        refine lv_icmp_ge (tgt := 41) hx hb dX9_isUnder_19 (by decide) (fun c => ?_) (fun c => ?_)
        · have hf := ifp hf c
          exact hk41 _ _ _ _ (lv_sub hl [] rfl) hw hf
        · have hf := ifn hf c
          refine lv_iload_n hx hb dX9_isUnder_22 rfl (lv_at hl 1 rfl) ?_
          refine lv_iload_n hx hb dX9_isUnder_23 rfl (lv_at hl 0 rfl) ?_
          refine lv_icmp_ne (tgt := 29) hx hb dX9_isUnder_24 (by decide) (fun c => ?_) (fun c => ?_)
          · have hf := ifn hf c
            refine x_gets C hw ku_359 dX9_isUnder_29 ?_
            refine lv_iload_n hx hb dX9_isUnder_32 rfl (lv_at hl 1 rfl) ?_
            obtain ⟨g103, hf⟩ := gd_el hf
            refine x_sald C hw g103 dX9_isUnder_33 ?_
            refine lv_topi (fun x104 ex104 => ?_)
            have hf := nm_el hf ex104
            refine lv_istore_n (lv' := [(2, .int x104), (1, .int x1), (3, .int x3)]) hx hb dX9_isUnder_34 rfl hl (by decide) rfl (fun ls hl => ?_)
            obtain ⟨x105, ex105⟩ : ∃ z : Int32, z = x3 + 1 := ⟨_, rfl⟩
            have hf := nm_el hf ex105
            refine lv_iinc (v := x105) (lv' := [(3, .int x105), (2, .int x104), (1, .int x1)]) hx hb dX9_isUnder_35 hl (k := 2) rfl (by rw [ex105, ki_1]) (by decide) rfl (fun ls hl => ?_)
            refine lv_goto (tgt := 4) hx hb dX9_isUnder_38 (by decide) ?_
            exact ih _ _ _ _ _ _ (lv_sub hl [2, 1, 0] rfl) hw hf
          · have hf := ifp hf c
            exact hk27 _ _ _ _ (lv_sub hl [] rfl) hw hf
set_option maxHeartbeats 4000000 in
set_option maxRecDepth 100000 in
theorem k_X9_isUnder {l : Launch} {D : va_G} {E : Nat → ClassId} {tU : Nat} {τ : Nat → Option XTy} {x0 : Int32} {x1 : Int32} {m0 mE : XMem} {rE : Int32} (hm : mT m0 = τ)  (hf : f_X9_isUnder x0 x1 m0 = some (rE, mE)) : Ct l yX9_isUnder cX9_isUnder 4 ((Option.some FieldType.boolean)) 1 0 0 D E tU [.int x0, .int x1] m0 (some (.int rE)) mE (mT mE = mT m0 ∧ (rE = 0 ∨ rE = 1)) := by
  subst hm
  refine Ct.of (by decide) (Nat.le_of_ble_eq_true rfl) (fun p e s m below meth c ls C hr hk hnm hl hw => ?_)
  have hx := C.1
  have hb := C.2.1
  have hl : lv_has ls 4 [(0, .int x0), (1, .int x1)] := hl
  unfold f_X9_isUnder at hf
  refine lv_iload_n hx hb dX9_isUnder_0 rfl (lv_at hl 0 rfl) ?_
  refine lv_istore_n (lv' := [(2, .int x0), (0, .int x0), (1, .int x1)]) hx hb dX9_isUnder_1 rfl hl (by decide) rfl (fun ls hl => ?_)
  refine lv_iconst hx hb dX9_isUnder_2 ki_0 ?_
  refine lv_istore_n (lv' := [(3, .int 0), (2, .int x0), (0, .int x0), (1, .int x1)]) hx hb dX9_isUnder_3 rfl hl (by decide) rfl (fun ls hl => ?_)
  refine w_X9_isUnder_h4 C hr hk hnm  ?_ ?_ 2000 _ _ _ _ _ _ (lv_sub hl [3, 1, 0] rfl) hw hf
  · intro m101 H locs ls hl hw hf
    refine lv_iconst hx hb dX9_isUnder_27 ki_1 ?_
    exact x_retZ C hr hk (Or.inr rfl) hw  hf (by decide) (by decide) dX9_isUnder_28
  · intro m102 H locs ls hl hw hf
    refine lv_iconst hx hb dX9_isUnder_41 ki_0 ?_
    exact x_retZ C hr hk (Or.inl rfl) hw  hf (by decide) (by decide) dX9_isUnder_42
set_option maxHeartbeats 4000000 in
set_option maxRecDepth 100000 in
theorem k_X9_as {l : Launch} {D : va_G} {E : Nat → ClassId} {tU : Nat} {τ : Nat → Option XTy} {a0 : Nat} {x1 : Int32} {x2 : Int32} {m0 mE : XMem} {rE : Int32} (hm : mT m0 = τ) (ta0 : τ a0 = some (.inl 9)) (hf : f_X9_as a0 x1 x2 m0 = some (rE, mE)) : Ct l yX9_as cX9_as 4 ((Option.some FieldType.int)) 3 0 0 D E tU [.ref a0, .int x1, .int x2] m0 (some (.int rE)) mE (mT mE = mT m0 ∧ True) := by
  subst hm
  refine Ct.of (by decide) (Nat.le_of_ble_eq_true rfl) (fun p e s m below meth c ls C hr hk hnm hl hw => ?_)
  have hx := C.1
  have hb := C.2.1
  have hl : lv_has ls 4 [(0, .ref a0), (1, .int x1), (2, .int x2)] := hl
  unfold f_X9_as at hf
  refine lv_aload_n hx hb dX9_as_0 rfl (lv_at hl 0 rfl) ?_
  obtain ⟨b101, eb101, hf⟩ := fo_el hf
  refine x_getR C hw fa_X9_10 (Or.inl ⟨_, rfl⟩) ta0 eb101 dX9_as_1 (fun tb101 => ?_)
  have tb101 : (mT m0) b101 = some (.inl 8) := tb101
  refine lv_iload_n hx hb dX9_as_4 rfl (lv_at hl 1 rfl) ?_
  obtain ⟨o103, m102, cm102, hf⟩ := b2_el (o := f_X8_cellAt b101 x1 m0) hf
  have hmp := hw.2.2.2.2
  refine x_callVq (As := [.int x1]) (rest := []) C hl.1 hw cb_X9_96 cv_X8_cellAt (k_X8_cellAt hw.2.2.2.2 tb101 cm102) tb101 rfl rfl (by decide) ⟨Nat.le_refl _, Nat.le_refl _⟩ rfl (Nat.le_of_ble_eq_true rfl) dX9_as_5 (fun H locs hw to103 => ?_)
  have to103 : ∀ b, o103 = some b → (mT m0) b = some (.inl 0) := fun b h => by have q := to103 b h; rw [hmp] at q; exact q
  refine x_astore_nQ (lv' := [(3, va_rf o103), (0, .ref a0), (1, .int x1), (2, .int x2)]) hx hb dX9_as_8 rfl hl (by decide) rfl (fun ls hl => ?_)
  refine x_aload_nQ hx hb dX9_as_9 rfl (lv_at hl 0 rfl) ?_
  cases o103 with
  | none =>
    have hf := oc_n hf
    refine lv_ifnullN (tgt := 22) hx hb dX9_as_10 (by decide) ?_
    refine lv_aload_n hx hb dX9_as_22 rfl (lv_at hl 1 rfl) ?_
    refine lv_iconst hx hb dX9_as_23 ki_0 ?_
    obtain ⟨r106, m105, cm105, hf⟩ := b2_el (o := f_X9_finding a0 0 m102) hf
    refine x_callVi (As := [.int 0]) (rest := []) C hl.1 hw cb_X9_63 cv_X9_finding (k_X9_finding hw.2.2.2.2 ta0 cm105) ta0 rfl rfl (by decide) ⟨Nat.le_refl _, Nat.le_refl _⟩ rfl (Nat.le_of_ble_eq_true rfl) dX9_as_24 (fun H locs hw tr106 => ?_)
    exact x_retI C hr hk hw  hf (by decide) (by decide) dX9_as_27
  | some b104 =>
    have hf := oc_s hf
    have tb104 := to103 b104 rfl
    refine lv_ifnull hx hb dX9_as_10 ?_
    refine lv_iload_n hx hb dX9_as_13 rfl (lv_at hl 3 rfl) ?_
    refine lv_iconst hx hb dX9_as_14 ki_0 ?_
    refine lv_iconst hx hb dX9_as_15 ki_5 ?_
    obtain ⟨r108, m107, cm107, hf⟩ := b2_el (o := f_X9_within x2 0 5 m102) hf
    refine x_callSi (As := [.int x2, .int 0, .int 5]) (rest := []) C hl.1 hw cb_X9_59 cs_X9_within (k_X9_within hw.2.2.2.2  cm107) rfl (by decide) ⟨Nat.le_refl _, Nat.le_refl _⟩ rfl (Nat.le_of_ble_eq_true rfl) dX9_as_16 (fun H locs hw tr108 => ?_)
    refine lv_if_ne (tgt := 28) hx hb dX9_as_19 (by decide) (fun c => ?_) (fun c => ?_)
    · have hf := ifn hf c
      refine lv_aload_n hx hb dX9_as_28 rfl (lv_at hl 0 rfl) ?_
      refine x_getI C hw fa_X9_74 tb104 dX9_as_29 ?_
      refine lv_iload_n hx hb dX9_as_32 rfl (lv_at hl 3 rfl) ?_
      obtain ⟨r110, m109, cm109, hf⟩ := b2_el (o := f_X9_isUnder (mI m107 b104 0) x2 m107) hf
      refine x_callSi (As := [.int (mI m107 b104 0), .int x2]) (rest := []) C hl.1 hw cb_X9_152 cs_X9_isUnder (k_X9_isUnder hw.2.2.2.2  cm109) rfl (by decide) ⟨Nat.le_refl _, Nat.le_refl _⟩ rfl (Nat.le_of_ble_eq_true rfl) dX9_as_33 (fun H locs hw tr110 => ?_)
      refine lv_if_ne (tgt := 45) hx hb dX9_as_36 (by decide) (fun c => ?_) (fun c => ?_)
      · have hf := ifn hf c
        refine lv_aload_n hx hb dX9_as_45 rfl (lv_at hl 0 rfl) ?_
        obtain ⟨r112, m111, cm111, hf⟩ := b2_el (o := f_X0_thermometer b104 m109) hf
        refine x_callVi (As := []) (rest := []) C hl.1 hw cb_X9_122 cv_X0_thermometer (k_X0_thermometer hw.2.2.2.2 tb104 cm111) tb104 rfl rfl (by decide) ⟨Nat.le_refl _, Nat.le_refl _⟩ rfl (Nat.le_of_ble_eq_true rfl) dX9_as_46 (fun H locs hw tr112 => ?_)
        exact x_retI C hr hk hw  hf (by decide) (by decide) dX9_as_49
      · have hf := ifp hf c
        refine lv_aload_n hx hb dX9_as_39 rfl (lv_at hl 1 rfl) ?_
        refine lv_iconst hx hb dX9_as_40 ki_2 ?_
        obtain ⟨r114, m113, cm113, hf⟩ := b2_el (o := f_X9_finding a0 2 m109) hf
        refine x_callVi (As := [.int 2]) (rest := []) C hl.1 hw cb_X9_63 cv_X9_finding (k_X9_finding hw.2.2.2.2 ta0 cm113) ta0 rfl rfl (by decide) ⟨Nat.le_refl _, Nat.le_refl _⟩ rfl (Nat.le_of_ble_eq_true rfl) dX9_as_41 (fun H locs hw tr114 => ?_)
        exact x_retI C hr hk hw  hf (by decide) (by decide) dX9_as_44
    · have hf := ifp hf c
      refine lv_aload_n hx hb dX9_as_22 rfl (lv_at hl 1 rfl) ?_
      refine lv_iconst hx hb dX9_as_23 ki_0 ?_
      obtain ⟨r116, m115, cm115, hf⟩ := b2_el (o := f_X9_finding a0 0 m107) hf
      refine x_callVi (As := [.int 0]) (rest := []) C hl.1 hw cb_X9_63 cv_X9_finding (k_X9_finding hw.2.2.2.2 ta0 cm115) ta0 rfl rfl (by decide) ⟨Nat.le_refl _, Nat.le_refl _⟩ rfl (Nat.le_of_ble_eq_true rfl) dX9_as_24 (fun H locs hw tr116 => ?_)
      exact x_retI C hr hk hw  hf (by decide) (by decide) dX9_as_27
set_option maxHeartbeats 4000000 in
set_option maxRecDepth 100000 in
theorem k_X9_mustOf {l : Launch} {D : va_G} {E : Nat → ClassId} {tU : Nat} {τ : Nat → Option XTy} {a0 : Nat} {a1 : Nat} {x2 : Int32} {x3 : Int32} {m0 mE : XMem} {rE : Int32} (hm : mT m0 = τ) (ta0 : τ a0 = some (.inl 9)) (ta1 : τ a1 = some (.inl 0)) (hf : f_X9_mustOf a0 a1 x2 x3 m0 = some (rE, mE)) : Ct l yX9_mustOf cX9_mustOf 4 ((Option.some FieldType.int)) 5 0 0 D E tU [.ref a0, .ref a1, .int x2, .int x3] m0 (some (.int rE)) mE (mT mE = mT m0 ∧ True) := by
  subst hm
  refine Ct.of (by decide) (Nat.le_of_ble_eq_true rfl) (fun p e s m below meth c ls C hr hk hnm hl hw => ?_)
  have hx := C.1
  have hb := C.2.1
  have hl : lv_has ls 4 [(0, .ref a0), (1, .ref a1), (2, .int x2), (3, .int x3)] := hl
  unfold f_X9_mustOf at hf
  refine lv_aload_n hx hb dX9_mustOf_0 rfl (lv_at hl 0 rfl) ?_
  obtain ⟨b101, eb101, hf⟩ := fo_el hf
  refine x_getR C hw fa_X9_10 (Or.inl ⟨_, rfl⟩) ta0 eb101 dX9_mustOf_1 (fun tb101 => ?_)
  have tb101 : (mT m0) b101 = some (.inl 8) := tb101
  refine lv_aload_n hx hb dX9_mustOf_4 rfl (lv_at hl 0 rfl) ?_
  obtain ⟨b102, eb102, hf⟩ := fo_el hf
  refine x_getR C hw fa_X9_10 (Or.inl ⟨_, rfl⟩) ta0 eb102 dX9_mustOf_5 (fun tb102 => ?_)
  have tb102 : (mT m0) b102 = some (.inl 8) := tb102
  refine lv_iload_n hx hb dX9_mustOf_8 rfl (lv_at hl 3 rfl) ?_
  refine lv_aload_n hx hb dX9_mustOf_9 rfl (lv_at hl 1 rfl) ?_
  refine lv_iload_n hx hb dX9_mustOf_10 rfl (lv_at hl 2 rfl) ?_
  refine lv_aload_n hx hb dX9_mustOf_11 rfl (lv_at hl 0 rfl) ?_
  obtain ⟨b103, eb103, hf⟩ := fo_el hf
  refine x_getR C hw fa_X9_10 (Or.inl ⟨_, rfl⟩) ta0 eb103 dX9_mustOf_12 (fun tb103 => ?_)
  have tb103 : (mT m0) b103 = some (.inl 8) := tb103
  refine x_getI C hw fa_X9_106 tb103 dX9_mustOf_15 ?_
  obtain ⟨r105, m104, cm104, hf⟩ := b2_el (o := f_X8_makesBy b102 x3 a1 x2 (mI m0 b103 0) m0) hf
  refine x_callVi (As := [.int x3, .ref a1, .int x2, .int (mI m0 b103 0)]) (rest := [.ref b101]) C hl.1 hw cb_X9_352 cv_X8_makesBy (k_X8_makesBy hw.2.2.2.2 tb102 ta1 cm104) tb102 rfl rfl (by decide) ⟨Nat.le_refl _, Nat.le_refl _⟩ rfl (Nat.le_of_ble_eq_true rfl) dX9_mustOf_18 (fun H locs hw tr105 => ?_)
  refine lv_iload_n hx hb dX9_mustOf_21 rfl (lv_at hl 3 rfl) ?_
  obtain ⟨r107, m106, cm106, hf⟩ := b2_el (o := f_X8_raysOverFloor b101 r105 x3 m104) hf
  refine x_callVi (As := [.int r105, .int x3]) (rest := []) C hl.1 hw cb_X9_356 cv_X8_raysOverFloor (k_X8_raysOverFloor hw.2.2.2.2 tb101 cm106) tb101 rfl rfl (by decide) ⟨Nat.le_refl _, Nat.le_refl _⟩ rfl (Nat.le_of_ble_eq_true rfl) dX9_mustOf_22 (fun H locs hw tr107 => ?_)
  exact x_retI C hr hk hw  hf (by decide) (by decide) dX9_mustOf_25
set_option maxHeartbeats 4000000 in
set_option maxRecDepth 100000 in
theorem k_X9_barred {l : Launch} {D : va_G} {E : Nat → ClassId} {tU : Nat} {τ : Nat → Option XTy} {a0 : Nat} {x1 : Int32} {x2 : Int32} {x3 : Int32} {m0 mE : XMem} {rE : Int32} (hm : mT m0 = τ) (ta0 : τ a0 = some (.inl 9)) (hf : f_X9_barred a0 x1 x2 x3 m0 = some (rE, mE)) : Ct l yX9_barred cX9_barred 7 ((Option.some FieldType.int)) 6 0 0 D E tU [.ref a0, .int x1, .int x2, .int x3] m0 (some (.int rE)) mE (mT mE = mT m0 ∧ True) := by
  subst hm
  refine Ct.of (by decide) (Nat.le_of_ble_eq_true rfl) (fun p e s m below meth c ls C hr hk hnm hl hw => ?_)
  have hx := C.1
  have hb := C.2.1
  have hl : lv_has ls 7 [(0, .ref a0), (1, .int x1), (2, .int x2), (3, .int x3)] := hl
  unfold f_X9_barred at hf
  refine lv_aload_n hx hb dX9_barred_0 rfl (lv_at hl 0 rfl) ?_
  obtain ⟨b101, eb101, hf⟩ := fo_el hf
  refine x_getR C hw fa_X9_10 (Or.inl ⟨_, rfl⟩) ta0 eb101 dX9_barred_1 (fun tb101 => ?_)
  have tb101 : (mT m0) b101 = some (.inl 8) := tb101
  refine lv_iload_n hx hb dX9_barred_4 rfl (lv_at hl 1 rfl) ?_
  obtain ⟨o103, m102, cm102, hf⟩ := b2_el (o := f_X8_cellAt b101 x1 m0) hf
  have hmp := hw.2.2.2.2
  refine x_callVq (As := [.int x1]) (rest := []) C hl.1 hw cb_X9_96 cv_X8_cellAt (k_X8_cellAt hw.2.2.2.2 tb101 cm102) tb101 rfl rfl (by decide) ⟨Nat.le_refl _, Nat.le_refl _⟩ rfl (Nat.le_of_ble_eq_true rfl) dX9_barred_5 (fun H locs hw to103 => ?_)
  have to103 : ∀ b, o103 = some b → (mT m0) b = some (.inl 0) := fun b h => by have q := to103 b h; rw [hmp] at q; exact q
  refine x_astoreQ (lv' := [(4, va_rf o103), (0, .ref a0), (1, .int x1), (2, .int x2), (3, .int x3)]) hx hb dX9_barred_8 hl (by decide) rfl (fun ls hl => ?_)
  refine x_aloadQ hx hb dX9_barred_10 (lv_at hl 0 rfl) ?_
  cases o103 with
  | none =>
    have hf := oc_n hf
    refine lv_ifnullN (tgt := 37) hx hb dX9_barred_12 (by decide) ?_
    refine lv_aload_n hx hb dX9_barred_37 rfl (lv_at hl 1 rfl) ?_
    refine lv_iconst hx hb dX9_barred_38 ki_0 ?_
    obtain ⟨r106, m105, cm105, hf⟩ := b2_el (o := f_X9_finding a0 0 m102) hf
    refine x_callVi (As := [.int 0]) (rest := []) C hl.1 hw cb_X9_63 cv_X9_finding (k_X9_finding hw.2.2.2.2 ta0 cm105) ta0 rfl rfl (by decide) ⟨Nat.le_refl _, Nat.le_refl _⟩ rfl (Nat.le_of_ble_eq_true rfl) dX9_barred_39 (fun H locs hw tr106 => ?_)
    exact x_retI C hr hk hw  hf (by decide) (by decide) dX9_barred_42
  | some b104 =>
    have hf := oc_s hf
    have tb104 := to103 b104 rfl
    refine lv_ifnull hx hb dX9_barred_12 ?_
    refine lv_aload_n hx hb dX9_barred_15 rfl (lv_at hl 1 rfl) ?_
    obtain ⟨b107, eb107, hf⟩ := fo_el hf
    refine x_getR C hw fa_X9_10 (Or.inl ⟨_, rfl⟩) ta0 eb107 dX9_barred_16 (fun tb107 => ?_)
    have tb107 : (mT m0) b107 = some (.inl 8) := tb107
    refine lv_iload_n hx hb dX9_barred_19 rfl (lv_at hl 3 rfl) ?_
    obtain ⟨o109, m108, cm108, hf⟩ := b2_el (o := f_X8_lawAt b107 x2 m102) hf
    have hmp := hw.2.2.2.2
    refine x_callVq (As := [.int x2]) (rest := []) C hl.1 hw cb_X9_197 cv_X8_lawAt (k_X8_lawAt hw.2.2.2.2 tb107 cm108) tb107 rfl rfl (by decide) ⟨Nat.le_refl _, Nat.le_refl _⟩ rfl (Nat.le_of_ble_eq_true rfl) dX9_barred_20 (fun H locs hw to109 => ?_)
    have to109 : ∀ b, o109 = some b → (mT m0) b = some (.inl 2) := fun b h => by have q := to109 b h; rw [hmp] at q; exact q
    cases o109 with
    | none =>
      have hf := oc_n hf
      refine lv_ifnullN (tgt := 37) hx hb dX9_barred_23 (by decide) ?_
      refine lv_aload_n hx hb dX9_barred_37 rfl (lv_at hl 1 rfl) ?_
      refine lv_iconst hx hb dX9_barred_38 ki_0 ?_
      obtain ⟨r112, m111, cm111, hf⟩ := b2_el (o := f_X9_finding a0 0 m108) hf
      refine x_callVi (As := [.int 0]) (rest := []) C hl.1 hw cb_X9_63 cv_X9_finding (k_X9_finding hw.2.2.2.2 ta0 cm111) ta0 rfl rfl (by decide) ⟨Nat.le_refl _, Nat.le_refl _⟩ rfl (Nat.le_of_ble_eq_true rfl) dX9_barred_39 (fun H locs hw tr112 => ?_)
      exact x_retI C hr hk hw  hf (by decide) (by decide) dX9_barred_42
    | some b110 =>
      have hf := oc_s hf
      have tb110 := to109 b110 rfl
      refine lv_ifnull hx hb dX9_barred_23 ?_
      refine lv_iload_n hx hb dX9_barred_26 rfl (lv_at hl 4 rfl) ?_
      refine lv_iconst hx hb dX9_barred_27 ki_0 ?_
      refine lv_sipush hx hb dX9_barred_28 ks_9999 ?_
      obtain ⟨r114, m113, cm113, hf⟩ := b2_el (o := f_X9_within x3 0 9999 m108) hf
      refine x_callSi (As := [.int x3, .int 0, .int 9999]) (rest := []) C hl.1 hw cb_X9_59 cs_X9_within (k_X9_within hw.2.2.2.2  cm113) rfl (by decide) ⟨Nat.le_refl _, Nat.le_refl _⟩ rfl (Nat.le_of_ble_eq_true rfl) dX9_barred_31 (fun H locs hw tr114 => ?_)
      refine lv_if_ne (tgt := 43) hx hb dX9_barred_34 (by decide) (fun c => ?_) (fun c => ?_)
      · have hf := ifn hf c
        refine lv_aload hx hb dX9_barred_43 (lv_at hl 0 rfl) ?_
        refine x_getI C hw fa_X9_137 tb104 dX9_barred_45 ?_
        refine lv_i2l (v := (Int32.toInt64 (mI m113 b104 12))) hx hb dX9_barred_48 rfl ?_
        refine lv_aload_n hx hb dX9_barred_49 rfl (lv_at hl 1 rfl) ?_
        obtain ⟨b115, eb115, hf⟩ := fo_el hf
        refine x_getR C hw fa_X9_10 (Or.inl ⟨_, rfl⟩) ta0 eb115 dX9_barred_50 (fun tb115 => ?_)
        have tb115 : (mT m0) b115 = some (.inl 8) := tb115
        refine lv_aload hx hb dX9_barred_53 (lv_at hl 0 rfl) ?_
        refine lv_iload_n hx hb dX9_barred_55 rfl (lv_at hl 2 rfl) ?_
        refine lv_aload_n hx hb dX9_barred_56 rfl (lv_at hl 1 rfl) ?_
        obtain ⟨b116, eb116, hf⟩ := fo_el hf
        refine x_getR C hw fa_X9_10 (Or.inl ⟨_, rfl⟩) ta0 eb116 dX9_barred_57 (fun tb116 => ?_)
        have tb116 : (mT m0) b116 = some (.inl 8) := tb116
        refine x_getI C hw fa_X9_106 tb116 dX9_barred_60 ?_
        obtain ⟨r118, m117, cm117, hf⟩ := b2_el (o := f_X8_floorOf b115 b104 x1 (mI m113 b116 0) m113) hf
        refine x_callVi (As := [.ref b104, .int x1, .int (mI m113 b116 0)]) (rest := [.long (Int32.toInt64 (mI m113 b104 12))]) C hl.1 hw cb_X9_205 cv_X8_floorOf (k_X8_floorOf hw.2.2.2.2 tb115 tb104 cm117) tb115 rfl rfl (by decide) ⟨Nat.le_refl _, Nat.le_refl _⟩ rfl (Nat.le_of_ble_eq_true rfl) dX9_barred_63 (fun H locs hw tr118 => ?_)
        refine lv_i2l (v := (Int32.toInt64 r118)) hx hb dX9_barred_66 rfl ?_
        refine lv_lsub hx hb dX9_barred_67 ?_
        refine lv_topl (fun l119 el119 => ?_)
        have hf := nm_el hf el119
        refine lv_lstore (lv' := [(5, .long l119), (4, .ref b104), (0, .ref a0), (1, .int x1), (2, .int x2), (3, .int x3)]) hx hb dX9_barred_68 hl (by decide) rfl (fun ls hl => ?_)
        refine lv_lload hx hb dX9_barred_70 (lv_at hl 0 rfl) ?_
        refine lv_iload_n hx hb dX9_barred_72 rfl (lv_at hl 5 rfl) ?_
        refine lv_i2l (v := (Int32.toInt64 x3)) hx hb dX9_barred_73 rfl ?_
        refine lv_ladd hx hb dX9_barred_74 ?_
        refine lv_aload_n hx hb dX9_barred_75 rfl (lv_at hl 2 rfl) ?_
        refine lv_aload hx hb dX9_barred_76 (lv_at hl 1 rfl) ?_
        refine lv_iload_n hx hb dX9_barred_78 rfl (lv_at hl 3 rfl) ?_
        refine lv_iload_n hx hb dX9_barred_79 rfl (lv_at hl 4 rfl) ?_
        obtain ⟨r121, m120, cm120, hf⟩ := b2_el (o := f_X9_mustOf a0 b104 x1 x2 m117) hf
        refine x_callVi (As := [.ref b104, .int x1, .int x2]) (rest := [.long (l119 + (Int32.toInt64 x3))]) C hl.1 hw cb_X9_307 cv_X9_mustOf (k_X9_mustOf hw.2.2.2.2 ta0 tb104 cm120) ta0 rfl rfl (by decide) ⟨Nat.le_refl _, Nat.le_refl _⟩ rfl (Nat.le_of_ble_eq_true rfl) dX9_barred_80 (fun H locs hw tr121 => ?_)
        refine lv_i2l (v := (Int32.toInt64 r121)) hx hb dX9_barred_83 rfl ?_
        refine W.lcmp hx hb dX9_barred_84 ?_
        refine lv_if_ge (tgt := 92) hx hb dX9_barred_85 (by decide) (fun c => ?_) (fun c => ?_)
        · have hf := ifp hf c
          refine lv_iconst hx hb dX9_barred_92 ki_0 ?_
          exact x_retI C hr hk hw  hf (by decide) (by decide) dX9_barred_93
        · have hf := ifn hf c
          refine lv_iconst hx hb dX9_barred_88 ki_1 ?_
          refine lv_goto (tgt := 93) hx hb dX9_barred_89 (by decide) ?_
          exact x_retI C hr hk hw  hf (by decide) (by decide) dX9_barred_93
      · have hf := ifp hf c
        refine lv_aload_n hx hb dX9_barred_37 rfl (lv_at hl 1 rfl) ?_
        refine lv_iconst hx hb dX9_barred_38 ki_0 ?_
        obtain ⟨r123, m122, cm122, hf⟩ := b2_el (o := f_X9_finding a0 0 m113) hf
        refine x_callVi (As := [.int 0]) (rest := []) C hl.1 hw cb_X9_63 cv_X9_finding (k_X9_finding hw.2.2.2.2 ta0 cm122) ta0 rfl rfl (by decide) ⟨Nat.le_refl _, Nat.le_refl _⟩ rfl (Nat.le_of_ble_eq_true rfl) dX9_barred_39 (fun H locs hw tr123 => ?_)
        exact x_retI C hr hk hw  hf (by decide) (by decide) dX9_barred_42
set_option maxHeartbeats 4000000 in
set_option maxRecDepth 100000 in
theorem k_X9_beside {l : Launch} {D : va_G} {E : Nat → ClassId} {tU : Nat} {τ : Nat → Option XTy} {a0 : Nat} {x1 : Int32} {x2 : Int32} {m0 mE : XMem} {rE : Int32} (hm : mT m0 = τ) (ta0 : τ a0 = some (.inl 9)) (hf : f_X9_beside a0 x1 x2 m0 = some (rE, mE)) : Ct l yX9_beside cX9_beside 7 ((Option.some FieldType.int)) 2 0 0 D E tU [.ref a0, .int x1, .int x2] m0 (some (.int rE)) mE (mT mE = mT m0 ∧ True) := by
  subst hm
  refine Ct.of (by decide) (Nat.le_of_ble_eq_true rfl) (fun p e s m below meth c ls C hr hk hnm hl hw => ?_)
  have hx := C.1
  have hb := C.2.1
  have hl : lv_has ls 7 [(0, .ref a0), (1, .int x1), (2, .int x2)] := hl
  unfold f_X9_beside at hf
  refine lv_aload_n hx hb dX9_beside_0 rfl (lv_at hl 0 rfl) ?_
  obtain ⟨b101, eb101, hf⟩ := fo_el hf
  refine x_getR C hw fa_X9_10 (Or.inl ⟨_, rfl⟩) ta0 eb101 dX9_beside_1 (fun tb101 => ?_)
  have tb101 : (mT m0) b101 = some (.inl 8) := tb101
  refine lv_iload_n hx hb dX9_beside_4 rfl (lv_at hl 1 rfl) ?_
  obtain ⟨o103, m102, cm102, hf⟩ := b2_el (o := f_X8_houseAt b101 x1 m0) hf
  have hmp := hw.2.2.2.2
  refine x_callVq (As := [.int x1]) (rest := []) C hl.1 hw cb_X9_236 cv_X8_houseAt (k_X8_houseAt hw.2.2.2.2 tb101 cm102) tb101 rfl rfl (by decide) ⟨Nat.le_refl _, Nat.le_refl _⟩ rfl (Nat.le_of_ble_eq_true rfl) dX9_beside_5 (fun H locs hw to103 => ?_)
  have to103 : ∀ b, o103 = some b → (mT m0) b = some (.inl 1) := fun b h => by have q := to103 b h; rw [hmp] at q; exact q
  refine x_astore_nQ (lv' := [(3, va_rf o103), (0, .ref a0), (1, .int x1), (2, .int x2)]) hx hb dX9_beside_8 rfl hl (by decide) rfl (fun ls hl => ?_)
  refine lv_aload_n hx hb dX9_beside_9 rfl (lv_at hl 1 rfl) ?_
  obtain ⟨b104, eb104, hf⟩ := fo_el hf
  refine x_getR C hw fa_X9_10 (Or.inl ⟨_, rfl⟩) ta0 eb104 dX9_beside_10 (fun tb104 => ?_)
  have tb104 : (mT m0) b104 = some (.inl 8) := tb104
  refine lv_iload_n hx hb dX9_beside_13 rfl (lv_at hl 3 rfl) ?_
  obtain ⟨o106, m105, cm105, hf⟩ := b2_el (o := f_X8_houseAt b104 x2 m102) hf
  have hmp := hw.2.2.2.2
  refine x_callVq (As := [.int x2]) (rest := []) C hl.1 hw cb_X9_236 cv_X8_houseAt (k_X8_houseAt hw.2.2.2.2 tb104 cm105) tb104 rfl rfl (by decide) ⟨Nat.le_refl _, Nat.le_refl _⟩ rfl (Nat.le_of_ble_eq_true rfl) dX9_beside_14 (fun H locs hw to106 => ?_)
  have to106 : ∀ b, o106 = some b → (mT m0) b = some (.inl 1) := fun b h => by have q := to106 b h; rw [hmp] at q; exact q
  refine x_astoreQ (lv' := [(4, va_rf o106), (3, va_rf o103), (0, .ref a0), (1, .int x1), (2, .int x2)]) hx hb dX9_beside_17 hl (by decide) (by simp [List.filter, va_rfc]) (fun ls hl => ?_)
  refine x_aload_nQ hx hb dX9_beside_19 rfl (lv_at hl 1 rfl) ?_
  cases o103 with
  | none =>
    have hf := oc_n hf
    refine lv_ifnullN (tgt := 33) hx hb dX9_beside_20 (by decide) ?_
    refine lv_aload_n hx hb dX9_beside_33 rfl (lv_at hl 2 rfl) ?_
    refine lv_iconst hx hb dX9_beside_34 ki_0 ?_
    obtain ⟨r109, m108, cm108, hf⟩ := b2_el (o := f_X9_finding a0 0 m105) hf
    refine x_callVi (As := [.int 0]) (rest := []) C hl.1 hw cb_X9_63 cv_X9_finding (k_X9_finding hw.2.2.2.2 ta0 cm108) ta0 rfl rfl (by decide) ⟨Nat.le_refl _, Nat.le_refl _⟩ rfl (Nat.le_of_ble_eq_true rfl) dX9_beside_35 (fun H locs hw tr109 => ?_)
    exact x_retI C hr hk hw  hf (by decide) (by decide) dX9_beside_38
  | some b107 =>
    have hf := oc_s hf
    have tb107 := to103 b107 rfl
    refine lv_ifnull hx hb dX9_beside_20 ?_
    refine x_aloadQ hx hb dX9_beside_23 (lv_at hl 0 rfl) ?_
    cases o106 with
    | none =>
      have hf := oc_n hf
      refine lv_ifnullN (tgt := 33) hx hb dX9_beside_25 (by decide) ?_
      refine lv_aload_n hx hb dX9_beside_33 rfl (lv_at hl 2 rfl) ?_
      refine lv_iconst hx hb dX9_beside_34 ki_0 ?_
      obtain ⟨r112, m111, cm111, hf⟩ := b2_el (o := f_X9_finding a0 0 m105) hf
      refine x_callVi (As := [.int 0]) (rest := []) C hl.1 hw cb_X9_63 cv_X9_finding (k_X9_finding hw.2.2.2.2 ta0 cm111) ta0 rfl rfl (by decide) ⟨Nat.le_refl _, Nat.le_refl _⟩ rfl (Nat.le_of_ble_eq_true rfl) dX9_beside_35 (fun H locs hw tr112 => ?_)
      exact x_retI C hr hk hw  hf (by decide) (by decide) dX9_beside_38
    | some b110 =>
      have hf := oc_s hf
      have tb110 := to106 b110 rfl
      refine lv_ifnull hx hb dX9_beside_25 ?_
      refine lv_iload_n hx hb dX9_beside_28 rfl (lv_at hl 3 rfl) ?_
      refine lv_iload_n hx hb dX9_beside_29 rfl (lv_at hl 4 rfl) ?_
      refine lv_icmp_ne (tgt := 39) hx hb dX9_beside_30 (by decide) (fun c => ?_) (fun c => ?_)
      · have hf := ifn hf c
        refine lv_aload_n hx hb dX9_beside_39 rfl (lv_at hl 1 rfl) ?_
        refine x_getI C hw fa_X9_240 tb107 dX9_beside_40 ?_
        refine lv_if_eq (tgt := 54) hx hb dX9_beside_43 (by decide) (fun c => ?_) (fun c => ?_)
        · have hf := ifp hf c
          refine lv_aload_n hx hb dX9_beside_54 rfl (lv_at hl 2 rfl) ?_
          refine lv_iconst hx hb dX9_beside_55 ki_3 ?_
          obtain ⟨r114, m113, cm113, hf⟩ := b2_el (o := f_X9_finding a0 3 m105) hf
          refine x_callVi (As := [.int 3]) (rest := []) C hl.1 hw cb_X9_63 cv_X9_finding (k_X9_finding hw.2.2.2.2 ta0 cm113) ta0 rfl rfl (by decide) ⟨Nat.le_refl _, Nat.le_refl _⟩ rfl (Nat.le_of_ble_eq_true rfl) dX9_beside_56 (fun H locs hw tr114 => ?_)
          exact x_retI C hr hk hw  hf (by decide) (by decide) dX9_beside_59
        · have hf := ifn hf c
          refine lv_aload hx hb dX9_beside_46 (lv_at hl 0 rfl) ?_
          refine x_getI C hw fa_X9_240 tb110 dX9_beside_48 ?_
          refine lv_if_ne (tgt := 60) hx hb dX9_beside_51 (by decide) (fun c => ?_) (fun c => ?_)
          · have hf := ifn hf c
            refine lv_aload_n hx hb dX9_beside_60 rfl (lv_at hl 1 rfl) ?_
            obtain ⟨l116, m115, cm115, hf⟩ := b2_el (o := f_X1_balance b107 m105) hf
            refine x_callVl (As := []) (rest := []) C hl.1 hw cb_X9_243 cv_X1_balance (k_X1_balance hw.2.2.2.2 tb107 cm115) tb107 rfl rfl (by decide) ⟨Nat.le_refl _, Nat.le_refl _⟩ rfl (Nat.le_of_ble_eq_true rfl) dX9_beside_61 (fun H locs hw tl116 => ?_)
            refine lv_aload hx hb dX9_beside_64 (lv_at hl 0 rfl) ?_
            refine x_getI C hw fa_X9_240 tb110 dX9_beside_66 ?_
            refine lv_i2l (v := (Int32.toInt64 (mI m115 b110 5))) hx hb dX9_beside_69 rfl ?_
            refine lv_lmul hx hb dX9_beside_70 ?_
            refine lv_aload hx hb dX9_beside_71 (lv_at hl 0 rfl) ?_
            obtain ⟨l118, m117, cm117, hf⟩ := b2_el (o := f_X1_balance b110 m115) hf
            refine x_callVl (As := []) (rest := [.long (l116 * (Int32.toInt64 (mI m115 b110 5)))]) C hl.1 hw cb_X9_243 cv_X1_balance (k_X1_balance hw.2.2.2.2 tb110 cm117) tb110 rfl rfl (by decide) ⟨Nat.le_refl _, Nat.le_refl _⟩ rfl (Nat.le_of_ble_eq_true rfl) dX9_beside_73 (fun H locs hw tl118 => ?_)
            refine lv_aload_n hx hb dX9_beside_76 rfl (lv_at hl 1 rfl) ?_
            refine x_getI C hw fa_X9_240 tb107 dX9_beside_77 ?_
            refine lv_i2l (v := (Int32.toInt64 (mI m117 b107 5))) hx hb dX9_beside_80 rfl ?_
            refine lv_lmul hx hb dX9_beside_81 ?_
            refine lv_lsub hx hb dX9_beside_82 ?_
            refine lv_topl (fun l119 el119 => ?_)
            have hf := nm_el hf el119
            refine lv_lstore (lv' := [(5, .long l119), (4, .ref b110), (3, .ref b107), (0, .ref a0), (1, .int x1), (2, .int x2)]) hx hb dX9_beside_83 hl (by decide) rfl (fun ls hl => ?_)
            refine lv_lload hx hb dX9_beside_85 (lv_at hl 0 rfl) ?_
            refine lv_lconst hx hb dX9_beside_87 kl_0 ?_
            refine W.lcmp hx hb dX9_beside_88 ?_
            refine lv_if_ne (tgt := 94) hx hb dX9_beside_89 (by decide) (fun c => ?_) (fun c => ?_)
            · have hf := ifn hf c
              refine lv_lload hx hb dX9_beside_94 (lv_at hl 0 rfl) ?_
              refine lv_lconst hx hb dX9_beside_96 kl_0 ?_
              refine W.lcmp hx hb dX9_beside_97 ?_
              refine lv_if_le (tgt := 105) hx hb dX9_beside_98 (by decide) (fun c => ?_) (fun c => ?_)
              · have hf := ifp hf c
                refine lv_iconst hx hb dX9_beside_105 ki_m1 ?_
                exact x_retI C hr hk hw  hf (by decide) (by decide) dX9_beside_106
              · have hf := ifn hf c
                refine lv_iconst hx hb dX9_beside_101 ki_1 ?_
                refine lv_goto (tgt := 106) hx hb dX9_beside_102 (by decide) ?_
                exact x_retI C hr hk hw  hf (by decide) (by decide) dX9_beside_106
            · have hf := ifp hf c
              refine lv_iconst hx hb dX9_beside_92 ki_0 ?_
              exact x_retI C hr hk hw  hf (by decide) (by decide) dX9_beside_93
          · have hf := ifp hf c
            refine lv_aload_n hx hb dX9_beside_54 rfl (lv_at hl 2 rfl) ?_
            refine lv_iconst hx hb dX9_beside_55 ki_3 ?_
            obtain ⟨r121, m120, cm120, hf⟩ := b2_el (o := f_X9_finding a0 3 m105) hf
            refine x_callVi (As := [.int 3]) (rest := []) C hl.1 hw cb_X9_63 cv_X9_finding (k_X9_finding hw.2.2.2.2 ta0 cm120) ta0 rfl rfl (by decide) ⟨Nat.le_refl _, Nat.le_refl _⟩ rfl (Nat.le_of_ble_eq_true rfl) dX9_beside_56 (fun H locs hw tr121 => ?_)
            exact x_retI C hr hk hw  hf (by decide) (by decide) dX9_beside_59
      · have hf := ifp hf c
        refine lv_aload_n hx hb dX9_beside_33 rfl (lv_at hl 2 rfl) ?_
        refine lv_iconst hx hb dX9_beside_34 ki_0 ?_
        obtain ⟨r123, m122, cm122, hf⟩ := b2_el (o := f_X9_finding a0 0 m105) hf
        refine x_callVi (As := [.int 0]) (rest := []) C hl.1 hw cb_X9_63 cv_X9_finding (k_X9_finding hw.2.2.2.2 ta0 cm122) ta0 rfl rfl (by decide) ⟨Nat.le_refl _, Nat.le_refl _⟩ rfl (Nat.le_of_ble_eq_true rfl) dX9_beside_35 (fun H locs hw tr123 => ?_)
        exact x_retI C hr hk hw  hf (by decide) (by decide) dX9_beside_38
set_option maxHeartbeats 4000000 in
set_option maxRecDepth 100000 in
theorem k_X9_cell {l : Launch} {D : va_G} {E : Nat → ClassId} {tU : Nat} {τ : Nat → Option XTy} {a0 : Nat} {x1 : Int32} {x2 : Int32} {x3 : Int32} {x4 : Int32} {m0 mE : XMem} {rE : Int32} (hm : mT m0 = τ) (ta0 : τ a0 = some (.inl 9)) (hf : f_X9_cell a0 x1 x2 x3 x4 m0 = some (rE, mE)) : Ct l yX9_cell cX9_cell 8 ((Option.some FieldType.int)) 3 0 0 D E tU [.ref a0, .int x1, .int x2, .int x3, .int x4] m0 (some (.int rE)) mE (mT mE = mT m0 ∧ True) := by
  subst hm
  refine Ct.of (by decide) (Nat.le_of_ble_eq_true rfl) (fun p e s m below meth c ls C hr hk hnm hl hw => ?_)
  have hx := C.1
  have hb := C.2.1
  have hl : lv_has ls 8 [(0, .ref a0), (1, .int x1), (2, .int x2), (3, .int x3), (4, .int x4)] := hl
  unfold f_X9_cell at hf
  refine lv_iload_n hx hb dX9_cell_0 rfl (lv_at hl 2 rfl) ?_
  refine lv_ldc hx hb C.2.2.2.1 (C.2.2.2.2.1 _ ki_X9_58) dX9_cell_1 ?_
  refine lv_idiv hx hb dX9_cell_3 (by decide) ?_
  refine lv_topi (fun x101 ex101 => ?_)
  have hf := nm_el hf ex101
  refine lv_istore (lv' := [(5, .int x101), (0, .ref a0), (1, .int x1), (2, .int x2), (3, .int x3), (4, .int x4)]) hx hb dX9_cell_4 hl (by decide) rfl (fun ls hl => ?_)
  refine lv_iload_n hx hb dX9_cell_6 rfl (lv_at hl 3 rfl) ?_
  refine lv_sipush hx hb dX9_cell_7 ks_10000 ?_
  refine lv_idiv hx hb dX9_cell_10 (by decide) ?_
  refine lv_bipush hx hb dX9_cell_11 kb_100 ?_
  refine lv_irem hx hb dX9_cell_13 (by decide) ?_
  refine lv_topi (fun x102 ex102 => ?_)
  have hf := nm_el hf ex102
  refine lv_istore (lv' := [(6, .int x102), (5, .int x101), (0, .ref a0), (1, .int x1), (2, .int x2), (3, .int x3), (4, .int x4)]) hx hb dX9_cell_14 hl (by decide) rfl (fun ls hl => ?_)
  refine lv_iload_n hx hb dX9_cell_16 rfl (lv_at hl 3 rfl) ?_
  refine lv_iconst hx hb dX9_cell_17 ki_0 ?_
  refine lv_iconst hx hb dX9_cell_18 ki_5 ?_
  obtain ⟨r104, m103, cm103, hf⟩ := b2_el (o := f_X9_within x1 0 5 m0) hf
  refine x_callSi (As := [.int x1, .int 0, .int 5]) (rest := []) C hl.1 hw cb_X9_59 cs_X9_within (k_X9_within hw.2.2.2.2  cm103) rfl (by decide) ⟨Nat.le_refl _, Nat.le_refl _⟩ rfl (Nat.le_of_ble_eq_true rfl) dX9_cell_19 (fun H locs hw tr104 => ?_)
  refine lv_if_eq (tgt := 51) hx hb dX9_cell_22 (by decide) (fun c => ?_) (fun c => ?_)
  · have hf := ifp hf c
    refine lv_aload_n hx hb dX9_cell_51 rfl (lv_at hl 2 rfl) ?_
    refine lv_iconst hx hb dX9_cell_52 ki_0 ?_
    obtain ⟨r106, m105, cm105, hf⟩ := b2_el (o := f_X9_finding a0 0 m103) hf
    refine x_callVi (As := [.int 0]) (rest := []) C hl.1 hw cb_X9_63 cv_X9_finding (k_X9_finding hw.2.2.2.2 ta0 cm105) ta0 rfl rfl (by decide) ⟨Nat.le_refl _, Nat.le_refl _⟩ rfl (Nat.le_of_ble_eq_true rfl) dX9_cell_53 (fun H locs hw tr106 => ?_)
    exact x_retI C hr hk hw  hf (by decide) (by decide) dX9_cell_56
  · have hf := ifn hf c
    refine lv_iload_n hx hb dX9_cell_25 rfl (lv_at hl 4 rfl) ?_
    refine lv_if_lt (tgt := 51) hx hb dX9_cell_26 (by decide) (fun c => ?_) (fun c => ?_)
    · have hf := ifp hf c
      refine lv_aload_n hx hb dX9_cell_51 rfl (lv_at hl 2 rfl) ?_
      refine lv_iconst hx hb dX9_cell_52 ki_0 ?_
      obtain ⟨r108, m107, cm107, hf⟩ := b2_el (o := f_X9_finding a0 0 m103) hf
      refine x_callVi (As := [.int 0]) (rest := []) C hl.1 hw cb_X9_63 cv_X9_finding (k_X9_finding hw.2.2.2.2 ta0 cm107) ta0 rfl rfl (by decide) ⟨Nat.le_refl _, Nat.le_refl _⟩ rfl (Nat.le_of_ble_eq_true rfl) dX9_cell_53 (fun H locs hw tr108 => ?_)
      exact x_retI C hr hk hw  hf (by decide) (by decide) dX9_cell_56
    · have hf := ifn hf c
      refine lv_iload hx hb dX9_cell_29 (lv_at hl 1 rfl) ?_
      refine lv_iconst hx hb dX9_cell_31 ki_1 ?_
      refine lv_bipush hx hb dX9_cell_32 kb_99 ?_
      obtain ⟨r110, m109, cm109, hf⟩ := b2_el (o := f_X9_within x101 1 99 m103) hf
      refine x_callSi (As := [.int x101, .int 1, .int 99]) (rest := []) C hl.1 hw cb_X9_59 cs_X9_within (k_X9_within hw.2.2.2.2  cm109) rfl (by decide) ⟨Nat.le_refl _, Nat.le_refl _⟩ rfl (Nat.le_of_ble_eq_true rfl) dX9_cell_34 (fun H locs hw tr110 => ?_)
      refine lv_if_eq (tgt := 51) hx hb dX9_cell_37 (by decide) (fun c => ?_) (fun c => ?_)
      · have hf := ifp hf c
        refine lv_aload_n hx hb dX9_cell_51 rfl (lv_at hl 2 rfl) ?_
        refine lv_iconst hx hb dX9_cell_52 ki_0 ?_
        obtain ⟨r112, m111, cm111, hf⟩ := b2_el (o := f_X9_finding a0 0 m109) hf
        refine x_callVi (As := [.int 0]) (rest := []) C hl.1 hw cb_X9_63 cv_X9_finding (k_X9_finding hw.2.2.2.2 ta0 cm111) ta0 rfl rfl (by decide) ⟨Nat.le_refl _, Nat.le_refl _⟩ rfl (Nat.le_of_ble_eq_true rfl) dX9_cell_53 (fun H locs hw tr112 => ?_)
        exact x_retI C hr hk hw  hf (by decide) (by decide) dX9_cell_56
      · have hf := ifn hf c
        refine lv_iload hx hb dX9_cell_40 (lv_at hl 0 rfl) ?_
        refine lv_iconst hx hb dX9_cell_42 ki_1 ?_
        refine lv_bipush hx hb dX9_cell_43 kb_99 ?_
        obtain ⟨r114, m113, cm113, hf⟩ := b2_el (o := f_X9_within x102 1 99 m109) hf
        refine x_callSi (As := [.int x102, .int 1, .int 99]) (rest := []) C hl.1 hw cb_X9_59 cs_X9_within (k_X9_within hw.2.2.2.2  cm113) rfl (by decide) ⟨Nat.le_refl _, Nat.le_refl _⟩ rfl (Nat.le_of_ble_eq_true rfl) dX9_cell_45 (fun H locs hw tr114 => ?_)
        refine lv_if_ne (tgt := 57) hx hb dX9_cell_48 (by decide) (fun c => ?_) (fun c => ?_)
        · have hf := ifn hf c
          refine lv_iload_n hx hb dX9_cell_57 rfl (lv_at hl 5 rfl) ?_
          refine lv_iconst hx hb dX9_cell_58 ki_0 ?_
          refine lv_bipush hx hb dX9_cell_59 kb_100 ?_
          obtain ⟨r116, m115, cm115, hf⟩ := b2_el (o := f_X9_within x3 0 100 m113) hf
          refine x_callSi (As := [.int x3, .int 0, .int 100]) (rest := []) C hl.1 hw cb_X9_59 cs_X9_within (k_X9_within hw.2.2.2.2  cm115) rfl (by decide) ⟨Nat.le_refl _, Nat.le_refl _⟩ rfl (Nat.le_of_ble_eq_true rfl) dX9_cell_61 (fun H locs hw tr116 => ?_)
          refine lv_if_eq (tgt := 79) hx hb dX9_cell_64 (by decide) (fun c => ?_) (fun c => ?_)
          · have hf := ifp hf c
            refine lv_aload_n hx hb dX9_cell_79 rfl (lv_at hl 2 rfl) ?_
            refine lv_iconst hx hb dX9_cell_80 ki_0 ?_
            obtain ⟨r118, m117, cm117, hf⟩ := b2_el (o := f_X9_finding a0 0 m115) hf
            refine x_callVi (As := [.int 0]) (rest := []) C hl.1 hw cb_X9_63 cv_X9_finding (k_X9_finding hw.2.2.2.2 ta0 cm117) ta0 rfl rfl (by decide) ⟨Nat.le_refl _, Nat.le_refl _⟩ rfl (Nat.le_of_ble_eq_true rfl) dX9_cell_81 (fun H locs hw tr118 => ?_)
            exact x_retI C hr hk hw  hf (by decide) (by decide) dX9_cell_84
          · have hf := ifn hf c
            refine lv_iload hx hb dX9_cell_67 (lv_at hl 6 rfl) ?_
            refine lv_iconst hx hb dX9_cell_69 ki_0 ?_
            refine lv_sipush hx hb dX9_cell_70 ks_9999 ?_
            obtain ⟨r120, m119, cm119, hf⟩ := b2_el (o := f_X9_within x4 0 9999 m115) hf
            refine x_callSi (As := [.int x4, .int 0, .int 9999]) (rest := []) C hl.1 hw cb_X9_59 cs_X9_within (k_X9_within hw.2.2.2.2  cm119) rfl (by decide) ⟨Nat.le_refl _, Nat.le_refl _⟩ rfl (Nat.le_of_ble_eq_true rfl) dX9_cell_73 (fun H locs hw tr120 => ?_)
            refine lv_if_ne (tgt := 85) hx hb dX9_cell_76 (by decide) (fun c => ?_) (fun c => ?_)
            · have hf := ifn hf c
              refine lv_aload_n hx hb dX9_cell_85 rfl (lv_at hl 2 rfl) ?_
              obtain ⟨b121, eb121, hf⟩ := fo_el hf
              refine x_getR C hw fa_X9_10 (Or.inl ⟨_, rfl⟩) ta0 eb121 dX9_cell_86 (fun tb121 => ?_)
              have tb121 : (mT m0) b121 = some (.inl 8) := tb121
              obtain ⟨o123, m122, cm122, hf⟩ := b2_el (o := f_X8_newCell b121 m119) hf
              have hmp := hw.2.2.2.2
              refine x_callVq (As := []) (rest := []) C hl.1 hw cb_X9_67 cv_X8_newCell (k_X8_newCell hw.2.2.2.2 tb121 cm122) tb121 rfl rfl (by decide) ⟨Nat.le_refl _, Nat.le_refl _⟩ rfl (Nat.le_of_ble_eq_true rfl) dX9_cell_89 (fun H locs hw to123 => ?_)
              have to123 : ∀ b, o123 = some b → (mT m0) b = some (.inl 0) := fun b h => by have q := to123 b h; rw [hmp] at q; exact q
              refine x_astoreQ (lv' := [(7, va_rf o123), (6, .int x102), (5, .int x101), (0, .ref a0), (1, .int x1), (2, .int x2), (3, .int x3), (4, .int x4)]) hx hb dX9_cell_92 hl (by decide) rfl (fun ls hl => ?_)
              refine x_aloadQ hx hb dX9_cell_94 (lv_at hl 0 rfl) ?_
              cases o123 with
              | none =>
                have hf := oc_n hf
                refine lv_ifnonnullN hx hb dX9_cell_96 ?_
                refine lv_aload_n hx hb dX9_cell_99 rfl (lv_at hl 3 rfl) ?_
                refine lv_iconst hx hb dX9_cell_100 ki_1 ?_
                obtain ⟨r126, m125, cm125, hf⟩ := b2_el (o := f_X9_finding a0 1 m122) hf
                refine x_callVi (As := [.int 1]) (rest := []) C hl.1 hw cb_X9_63 cv_X9_finding (k_X9_finding hw.2.2.2.2 ta0 cm125) ta0 rfl rfl (by decide) ⟨Nat.le_refl _, Nat.le_refl _⟩ rfl (Nat.le_of_ble_eq_true rfl) dX9_cell_101 (fun H locs hw tr126 => ?_)
                exact x_retI C hr hk hw  hf (by decide) (by decide) dX9_cell_104
              | some b124 =>
                have hf := oc_s hf
                have tb124 := to123 b124 rfl
                refine lv_ifnonnull (tgt := 105) hx hb dX9_cell_96 (by decide) ?_
                refine lv_aload hx hb dX9_cell_105 (lv_at hl 0 rfl) ?_
                obtain ⟨m127, cm127, hf⟩ := b1_el (o := f_X0_begin b124 m122) hf
                refine x_callVv (As := []) (rest := []) C hl.1 hw cb_X9_71 cv_X0_begin (k_X0_begin hw.2.2.2.2 tb124 cm127) tb124 rfl rfl (by decide) ⟨Nat.le_refl _, Nat.le_refl _⟩ rfl (Nat.le_of_ble_eq_true rfl) dX9_cell_107 (fun H locs hw tm127 => ?_)
                refine lv_aload hx hb dX9_cell_110 (lv_at hl 0 rfl) ?_
                refine lv_iload_n hx hb dX9_cell_112 rfl (lv_at hl 4 rfl) ?_
                refine x_putI C hw fa_X9_74 tb124 dX9_cell_113 (fun m128 H locs em128 hw => ?_)
                have hf := nm_el hf em128
                refine lv_aload hx hb dX9_cell_116 (lv_at hl 0 rfl) ?_
                refine lv_iload hx hb dX9_cell_118 (lv_at hl 2 rfl) ?_
                refine x_putI C hw fa_X9_78 tb124 dX9_cell_120 (fun m129 H locs em129 hw => ?_)
                have hf := nm_el hf em129
                refine lv_aload hx hb dX9_cell_123 (lv_at hl 0 rfl) ?_
                refine lv_iload hx hb dX9_cell_125 (lv_at hl 1 rfl) ?_
                refine x_putI C hw fa_X9_81 tb124 dX9_cell_127 (fun m130 H locs em130 hw => ?_)
                have hf := nm_el hf em130
                refine lv_aload hx hb dX9_cell_130 (lv_at hl 0 rfl) ?_
                refine lv_iload_n hx hb dX9_cell_132 rfl (lv_at hl 5 rfl) ?_
                refine lv_sipush hx hb dX9_cell_133 ks_10000 ?_
                refine lv_irem hx hb dX9_cell_136 (by decide) ?_
                refine x_putI C hw fa_X9_84 tb124 dX9_cell_137 (fun m131 H locs em131 hw => ?_)
                have hf := nm_el hf em131
                refine lv_aload hx hb dX9_cell_140 (lv_at hl 0 rfl) ?_
                refine lv_iload_n hx hb dX9_cell_142 rfl (lv_at hl 6 rfl) ?_
                refine x_putI C hw fa_X9_87 tb124 dX9_cell_143 (fun m132 H locs em132 hw => ?_)
                have hf := nm_el hf em132
                refine lv_aload hx hb dX9_cell_146 (lv_at hl 0 rfl) ?_
                refine lv_iload hx hb dX9_cell_148 (lv_at hl 7 rfl) ?_
                refine x_putI C hw fa_X9_90 tb124 dX9_cell_150 (fun m133 H locs em133 hw => ?_)
                have hf := nm_el hf em133
                refine lv_aload_n hx hb dX9_cell_153 rfl (lv_at hl 3 rfl) ?_
                obtain ⟨b134, eb134, hf⟩ := fo_el hf
                refine x_getR C hw fa_X9_10 (Or.inl ⟨_, rfl⟩) ta0 eb134 dX9_cell_154 (fun tb134 => ?_)
                have tb134 : (mT m0) b134 = some (.inl 8) := tb134
                refine x_getI C hw fa_X9_93 tb134 dX9_cell_157 ?_
                refine lv_iconst hx hb dX9_cell_160 ki_1 ?_
                refine lv_isub hx hb dX9_cell_161 ?_
                exact x_retI C hr hk hw  hf (by decide) (by decide) dX9_cell_162
            · have hf := ifp hf c
              refine lv_aload_n hx hb dX9_cell_79 rfl (lv_at hl 2 rfl) ?_
              refine lv_iconst hx hb dX9_cell_80 ki_0 ?_
              obtain ⟨r136, m135, cm135, hf⟩ := b2_el (o := f_X9_finding a0 0 m119) hf
              refine x_callVi (As := [.int 0]) (rest := []) C hl.1 hw cb_X9_63 cv_X9_finding (k_X9_finding hw.2.2.2.2 ta0 cm135) ta0 rfl rfl (by decide) ⟨Nat.le_refl _, Nat.le_refl _⟩ rfl (Nat.le_of_ble_eq_true rfl) dX9_cell_81 (fun H locs hw tr136 => ?_)
              exact x_retI C hr hk hw  hf (by decide) (by decide) dX9_cell_84
        · have hf := ifp hf c
          refine lv_aload_n hx hb dX9_cell_51 rfl (lv_at hl 2 rfl) ?_
          refine lv_iconst hx hb dX9_cell_52 ki_0 ?_
          obtain ⟨r138, m137, cm137, hf⟩ := b2_el (o := f_X9_finding a0 0 m113) hf
          refine x_callVi (As := [.int 0]) (rest := []) C hl.1 hw cb_X9_63 cv_X9_finding (k_X9_finding hw.2.2.2.2 ta0 cm137) ta0 rfl rfl (by decide) ⟨Nat.le_refl _, Nat.le_refl _⟩ rfl (Nat.le_of_ble_eq_true rfl) dX9_cell_53 (fun H locs hw tr138 => ?_)
          exact x_retI C hr hk hw  hf (by decide) (by decide) dX9_cell_56
set_option maxHeartbeats 4000000 in
set_option maxRecDepth 100000 in
theorem k_X9_sheetAt {l : Launch} {D : va_G} {E : Nat → ClassId} {tU : Nat} {τ : Nat → Option XTy} {a0 : Nat} {x1 : Int32} {m0 mE : XMem} {rE : Option Nat} (hm : mT m0 = τ) (ta0 : τ a0 = some (.inl 9)) (hf : f_X9_sheetAt a0 x1 m0 = some (rE, mE)) : Ct l yX9_sheetAt cX9_sheetAt 2 ((Option.some (FieldType.object "WarmGlass$Sheet"))) 1 0 0 D E tU [.ref a0, .int x1] m0 (some (va_rf rE)) mE (mT mE = mT m0 ∧ (∀ b, rE = some b → mT m0 b = some (.inl 4))) := by
  subst hm
  refine Ct.of (by decide) (Nat.le_of_ble_eq_true rfl) (fun p e s m below meth c ls C hr hk hnm hl hw => ?_)
  have hx := C.1
  have hb := C.2.1
  have hl : lv_has ls 2 [(0, .ref a0), (1, .int x1)] := hl
  unfold f_X9_sheetAt at hf
  refine lv_iload_n hx hb dX9_sheetAt_0 rfl (lv_at hl 1 rfl) ?_
  refine lv_if_lt (tgt := 13) hx hb dX9_sheetAt_1 (by decide) (fun c => ?_) (fun c => ?_)
  · have hf := ifp hf c
    refine lv_null hx hb dX9_sheetAt_13 ?_
    refine lv_goto (tgt := 23) hx hb dX9_sheetAt_14 (by decide) ?_
    exact x_retQ (o := none) C hr hk hw  (fun b h => by cases h) hf (by decide) (by decide) dX9_sheetAt_23
  · have hf := ifn hf c
    refine lv_iload_n hx hb dX9_sheetAt_4 rfl (lv_at hl 1 rfl) ?_
    refine lv_aload_n hx hb dX9_sheetAt_5 rfl (lv_at hl 0 rfl) ?_
    obtain ⟨b101, eb101, hf⟩ := fo_el hf
    refine x_getR C hw fa_X9_39 (Or.inr ⟨_, rfl⟩) ta0 eb101 dX9_sheetAt_6 (fun tb101 => ?_)
    have tb101 : ∃ n, (mT m0) b101 = some (.inr (6, n)) := tb101
    refine x_alen (ek := 6) C hw rfl tb101 dX9_sheetAt_9 ?_
    refine lv_icmp_lt (tgt := 17) hx hb dX9_sheetAt_10 (by decide) (fun c => ?_) (fun c => ?_)
    · have hf := ifp hf c
      refine lv_aload_n hx hb dX9_sheetAt_17 rfl (lv_at hl 0 rfl) ?_
      obtain ⟨b102, eb102, hf⟩ := fo_el hf
      refine x_getR C hw fa_X9_39 (Or.inr ⟨_, rfl⟩) ta0 eb102 dX9_sheetAt_18 (fun tb102 => ?_)
      have tb102 : ∃ n, (mT m0) b102 = some (.inr (6, n)) := tb102
      refine lv_iload_n hx hb dX9_sheetAt_21 rfl (lv_at hl 1 rfl) ?_
      obtain ⟨g103, hf⟩ := gd_el hf
      refine x_aald (ek := 6) C hw rfl (by decide) tb102 g103 dX9_sheetAt_22 (fun to104 => ?_)
      refine lv_topq (fun o104 eo104 => ?_)
      have hf := nm_el hf eo104
      have to104 : ∀ b, o104 = some b → (mT m0) b = some (.inl 4) := fun b h => to104 b (eo104.symm.trans h)
      exact x_retQ (o := o104) C hr hk hw  to104 hf (by decide) (by decide) dX9_sheetAt_23
    · have hf := ifn hf c
      refine lv_null hx hb dX9_sheetAt_13 ?_
      refine lv_goto (tgt := 23) hx hb dX9_sheetAt_14 (by decide) ?_
      exact x_retQ (o := none) C hr hk hw  (fun b h => by cases h) hf (by decide) (by decide) dX9_sheetAt_23
set_option maxHeartbeats 4000000 in
set_option maxRecDepth 100000 in
theorem k_X9_copy {l : Launch} {D : va_G} {E : Nat → ClassId} {tU : Nat} {τ : Nat → Option XTy} {a0 : Nat} {x1 : Int32} {x2 : Int32} {x3 : Int32} {x4 : Int32} {x5 : Int32} {m0 mE : XMem} {rE : Int32} (hm : mT m0 = τ) (ta0 : τ a0 = some (.inl 9)) (hf : f_X9_copy a0 x1 x2 x3 x4 x5 m0 = some (rE, mE)) : Ct l yX9_copy cX9_copy 8 ((Option.some FieldType.int)) 2 0 0 D E tU [.ref a0, .int x1, .int x2, .int x3, .int x4, .int x5] m0 (some (.int rE)) mE (mT mE = mT m0 ∧ True) := by
  subst hm
  refine Ct.of (by decide) (Nat.le_of_ble_eq_true rfl) (fun p e s m below meth c ls C hr hk hnm hl hw => ?_)
  have hx := C.1
  have hb := C.2.1
  have hl : lv_has ls 8 [(0, .ref a0), (1, .int x1), (2, .int x2), (3, .int x3), (4, .int x4), (5, .int x5)] := hl
  unfold f_X9_copy at hf
  refine lv_aload_n hx hb dX9_copy_0 rfl (lv_at hl 0 rfl) ?_
  refine lv_iload_n hx hb dX9_copy_1 rfl (lv_at hl 1 rfl) ?_
  obtain ⟨o102, m101, cm101, hf⟩ := b2_el (o := f_X9_sheetAt a0 x1 m0) hf
  have hmp := hw.2.2.2.2
  refine x_callVq (As := [.int x1]) (rest := []) C hl.1 hw cb_X9_312 cv_X9_sheetAt (k_X9_sheetAt hw.2.2.2.2 ta0 cm101) ta0 rfl rfl (by decide) ⟨Nat.le_refl _, Nat.le_refl _⟩ rfl (Nat.le_of_ble_eq_true rfl) dX9_copy_2 (fun H locs hw to102 => ?_)
  have to102 : ∀ b, o102 = some b → (mT m0) b = some (.inl 4) := fun b h => by have q := to102 b h; rw [hmp] at q; exact q
  refine x_astoreQ (lv' := [(6, va_rf o102), (0, .ref a0), (1, .int x1), (2, .int x2), (3, .int x3), (4, .int x4), (5, .int x5)]) hx hb dX9_copy_5 hl (by decide) rfl (fun ls hl => ?_)
  refine lv_aload_n hx hb dX9_copy_7 rfl (lv_at hl 1 rfl) ?_
  refine lv_iload_n hx hb dX9_copy_8 rfl (lv_at hl 4 rfl) ?_
  obtain ⟨o104, m103, cm103, hf⟩ := b2_el (o := f_X9_sheetAt a0 x3 m101) hf
  have hmp := hw.2.2.2.2
  refine x_callVq (As := [.int x3]) (rest := []) C hl.1 hw cb_X9_312 cv_X9_sheetAt (k_X9_sheetAt hw.2.2.2.2 ta0 cm103) ta0 rfl rfl (by decide) ⟨Nat.le_refl _, Nat.le_refl _⟩ rfl (Nat.le_of_ble_eq_true rfl) dX9_copy_9 (fun H locs hw to104 => ?_)
  have to104 : ∀ b, o104 = some b → (mT m0) b = some (.inl 4) := fun b h => by have q := to104 b h; rw [hmp] at q; exact q
  refine x_astoreQ (lv' := [(7, va_rf o104), (6, va_rf o102), (0, .ref a0), (1, .int x1), (2, .int x2), (3, .int x3), (4, .int x4), (5, .int x5)]) hx hb dX9_copy_12 hl (by decide) (by simp [List.filter, va_rfc]) (fun ls hl => ?_)
  refine x_aloadQ hx hb dX9_copy_14 (lv_at hl 1 rfl) ?_
  cases o102 with
  | none =>
    have hf := oc_n hf
    refine lv_ifnullN (tgt := 24) hx hb dX9_copy_16 (by decide) ?_
    refine lv_aload_n hx hb dX9_copy_24 rfl (lv_at hl 2 rfl) ?_
    refine lv_iconst hx hb dX9_copy_25 ki_0 ?_
    obtain ⟨r107, m106, cm106, hf⟩ := b2_el (o := f_X9_finding a0 0 m103) hf
    refine x_callVi (As := [.int 0]) (rest := []) C hl.1 hw cb_X9_63 cv_X9_finding (k_X9_finding hw.2.2.2.2 ta0 cm106) ta0 rfl rfl (by decide) ⟨Nat.le_refl _, Nat.le_refl _⟩ rfl (Nat.le_of_ble_eq_true rfl) dX9_copy_26 (fun H locs hw tr107 => ?_)
    exact x_retI C hr hk hw  hf (by decide) (by decide) dX9_copy_29
  | some b105 =>
    have hf := oc_s hf
    have tb105 := to102 b105 rfl
    refine lv_ifnull hx hb dX9_copy_16 ?_
    refine x_aloadQ hx hb dX9_copy_19 (lv_at hl 0 rfl) ?_
    cases o104 with
    | none =>
      have hf := oc_n hf
      refine lv_ifnonnullN hx hb dX9_copy_21 ?_
      refine lv_aload_n hx hb dX9_copy_24 rfl (lv_at hl 2 rfl) ?_
      refine lv_iconst hx hb dX9_copy_25 ki_0 ?_
      obtain ⟨r110, m109, cm109, hf⟩ := b2_el (o := f_X9_finding a0 0 m103) hf
      refine x_callVi (As := [.int 0]) (rest := []) C hl.1 hw cb_X9_63 cv_X9_finding (k_X9_finding hw.2.2.2.2 ta0 cm109) ta0 rfl rfl (by decide) ⟨Nat.le_refl _, Nat.le_refl _⟩ rfl (Nat.le_of_ble_eq_true rfl) dX9_copy_26 (fun H locs hw tr110 => ?_)
      exact x_retI C hr hk hw  hf (by decide) (by decide) dX9_copy_29
    | some b108 =>
      have hf := oc_s hf
      have tb108 := to104 b108 rfl
      refine lv_ifnonnull (tgt := 30) hx hb dX9_copy_21 (by decide) ?_
      refine lv_aload hx hb dX9_copy_30 (lv_at hl 1 rfl) ?_
      refine x_getI C hw fa_X9_316 tb105 dX9_copy_32 ?_
      refine lv_if_eq (tgt := 46) hx hb dX9_copy_35 (by decide) (fun c => ?_) (fun c => ?_)
      · have hf := ifp hf c
        refine lv_aload_n hx hb dX9_copy_46 rfl (lv_at hl 2 rfl) ?_
        refine lv_iconst hx hb dX9_copy_47 ki_5 ?_
        obtain ⟨r112, m111, cm111, hf⟩ := b2_el (o := f_X9_finding a0 5 m103) hf
        refine x_callVi (As := [.int 5]) (rest := []) C hl.1 hw cb_X9_63 cv_X9_finding (k_X9_finding hw.2.2.2.2 ta0 cm111) ta0 rfl rfl (by decide) ⟨Nat.le_refl _, Nat.le_refl _⟩ rfl (Nat.le_of_ble_eq_true rfl) dX9_copy_48 (fun H locs hw tr112 => ?_)
        exact x_retI C hr hk hw  hf (by decide) (by decide) dX9_copy_51
      · have hf := ifn hf c
        refine lv_aload hx hb dX9_copy_38 (lv_at hl 0 rfl) ?_
        refine x_getI C hw fa_X9_316 tb108 dX9_copy_40 ?_
        refine lv_if_ne (tgt := 52) hx hb dX9_copy_43 (by decide) (fun c => ?_) (fun c => ?_)
        · have hf := ifn hf c
          refine lv_aload hx hb dX9_copy_52 (lv_at hl 1 rfl) ?_
          refine x_getI C hw fa_X9_316 tb105 dX9_copy_54 ?_
          refine lv_aload hx hb dX9_copy_57 (lv_at hl 0 rfl) ?_
          refine x_getI C hw fa_X9_316 tb108 dX9_copy_59 ?_
          refine lv_icmp_eq (tgt := 71) hx hb dX9_copy_62 (by decide) (fun c => ?_) (fun c => ?_)
          · have hf := ifp hf c
            refine lv_aload hx hb dX9_copy_71 (lv_at hl 1 rfl) ?_
            refine lv_iload_n hx hb dX9_copy_73 rfl (lv_at hl 4 rfl) ?_
            refine lv_iload hx hb dX9_copy_74 (lv_at hl 7 rfl) ?_
            obtain ⟨r114, m113, cm113, hf⟩ := b2_el (o := f_X4_has b105 x2 x5 m103) hf
            refine x_callVi (As := [.int x2, .int x5]) (rest := []) C hl.1 hw cb_X9_330 cv_X4_has (k_X4_has hw.2.2.2.2 tb105 cm113) tb105 rfl rfl (by decide) ⟨Nat.le_refl _, Nat.le_refl _⟩ rfl (Nat.le_of_ble_eq_true rfl) dX9_copy_76 (fun H locs hw tr114 => ?_)
            refine lv_if_eq (tgt := 94) hx hb dX9_copy_79 (by decide) (fun c => ?_) (fun c => ?_)
            · have hf := ifp hf c
              refine lv_aload_n hx hb dX9_copy_94 rfl (lv_at hl 2 rfl) ?_
              refine lv_iconst hx hb dX9_copy_95 ki_0 ?_
              obtain ⟨r116, m115, cm115, hf⟩ := b2_el (o := f_X9_finding a0 0 m113) hf
              refine x_callVi (As := [.int 0]) (rest := []) C hl.1 hw cb_X9_63 cv_X9_finding (k_X9_finding hw.2.2.2.2 ta0 cm115) ta0 rfl rfl (by decide) ⟨Nat.le_refl _, Nat.le_refl _⟩ rfl (Nat.le_of_ble_eq_true rfl) dX9_copy_96 (fun H locs hw tr116 => ?_)
              exact x_retI C hr hk hw  hf (by decide) (by decide) dX9_copy_99
            · have hf := ifn hf c
              refine lv_aload hx hb dX9_copy_82 (lv_at hl 0 rfl) ?_
              refine lv_iload hx hb dX9_copy_84 (lv_at hl 6 rfl) ?_
              refine lv_iload hx hb dX9_copy_86 (lv_at hl 7 rfl) ?_
              obtain ⟨r118, m117, cm117, hf⟩ := b2_el (o := f_X4_has b108 x4 x5 m113) hf
              refine x_callVi (As := [.int x4, .int x5]) (rest := []) C hl.1 hw cb_X9_330 cv_X4_has (k_X4_has hw.2.2.2.2 tb108 cm117) tb108 rfl rfl (by decide) ⟨Nat.le_refl _, Nat.le_refl _⟩ rfl (Nat.le_of_ble_eq_true rfl) dX9_copy_88 (fun H locs hw tr118 => ?_)
              refine lv_if_ne (tgt := 100) hx hb dX9_copy_91 (by decide) (fun c => ?_) (fun c => ?_)
              · have hf := ifn hf c
                refine lv_aload hx hb dX9_copy_100 (lv_at hl 1 rfl) ?_
                obtain ⟨b119, eb119, hf⟩ := fo_el hf
                refine x_getN C hw tb105 eb119 dX9_copy_102 (fun tb119 => ?_)
                refine lv_iload_n hx hb dX9_copy_105 rfl (lv_at hl 4 rfl) ?_
                refine lv_aload hx hb dX9_copy_106 (lv_at hl 0 rfl) ?_
                obtain ⟨b120, eb120, hf⟩ := fo_el hf
                refine x_getN C hw tb108 eb120 dX9_copy_108 (fun tb120 => ?_)
                refine lv_iload hx hb dX9_copy_111 (lv_at hl 6 rfl) ?_
                refine lv_iload hx hb dX9_copy_113 (lv_at hl 7 rfl) ?_
                obtain ⟨g121, hf⟩ := gd_el hf
                obtain ⟨g121a, g121b, g121c, g121d, g121e⟩ := cpb_el g121
                refine x_copy C hl.1 hw ks_X9_337 ks_n ks_s ks_i tb119 tb120 g121a g121b g121c g121d g121e (by decide) (by decide) dX9_copy_115 (fun m122 H locs em122 hw => ?_)
                have hf := nm_el hf em122
                refine lv_iload hx hb dX9_copy_118 (lv_at hl 7 rfl) ?_
                exact x_retI C hr hk hw  hf (by decide) (by decide) dX9_copy_120
              · have hf := ifp hf c
                refine lv_aload_n hx hb dX9_copy_94 rfl (lv_at hl 2 rfl) ?_
                refine lv_iconst hx hb dX9_copy_95 ki_0 ?_
                obtain ⟨r124, m123, cm123, hf⟩ := b2_el (o := f_X9_finding a0 0 m117) hf
                refine x_callVi (As := [.int 0]) (rest := []) C hl.1 hw cb_X9_63 cv_X9_finding (k_X9_finding hw.2.2.2.2 ta0 cm123) ta0 rfl rfl (by decide) ⟨Nat.le_refl _, Nat.le_refl _⟩ rfl (Nat.le_of_ble_eq_true rfl) dX9_copy_96 (fun H locs hw tr124 => ?_)
                exact x_retI C hr hk hw  hf (by decide) (by decide) dX9_copy_99
          · have hf := ifn hf c
            refine lv_aload_n hx hb dX9_copy_65 rfl (lv_at hl 2 rfl) ?_
            refine lv_iconst hx hb dX9_copy_66 ki_2 ?_
            obtain ⟨r126, m125, cm125, hf⟩ := b2_el (o := f_X9_finding a0 2 m103) hf
            refine x_callVi (As := [.int 2]) (rest := []) C hl.1 hw cb_X9_63 cv_X9_finding (k_X9_finding hw.2.2.2.2 ta0 cm125) ta0 rfl rfl (by decide) ⟨Nat.le_refl _, Nat.le_refl _⟩ rfl (Nat.le_of_ble_eq_true rfl) dX9_copy_67 (fun H locs hw tr126 => ?_)
            exact x_retI C hr hk hw  hf (by decide) (by decide) dX9_copy_70
        · have hf := ifp hf c
          refine lv_aload_n hx hb dX9_copy_46 rfl (lv_at hl 2 rfl) ?_
          refine lv_iconst hx hb dX9_copy_47 ki_5 ?_
          obtain ⟨r128, m127, cm127, hf⟩ := b2_el (o := f_X9_finding a0 5 m103) hf
          refine x_callVi (As := [.int 5]) (rest := []) C hl.1 hw cb_X9_63 cv_X9_finding (k_X9_finding hw.2.2.2.2 ta0 cm127) ta0 rfl rfl (by decide) ⟨Nat.le_refl _, Nat.le_refl _⟩ rfl (Nat.le_of_ble_eq_true rfl) dX9_copy_48 (fun H locs hw tr128 => ?_)
          exact x_retI C hr hk hw  hf (by decide) (by decide) dX9_copy_51
