set_option maxHeartbeats 4000000 in
set_option maxRecDepth 100000 in
theorem k_X3_takesToken {l : Launch} {D : va_G} {E : Nat → ClassId} {tU : Nat} {τ : Nat → Option XTy} {a0 : Nat} {a1 : Nat} {m0 mE : XMem} {rE : Int32} (hm : mT m0 = τ) (ta0 : τ a0 = some (.inl 3)) (ta1 : τ a1 = some (.inl 5)) (hf : f_X3_takesToken a0 a1 m0 = some (rE, mE)) : Ct l yX3_takesToken cX3_takesToken 3 ((Option.some FieldType.boolean)) 3 0 0 D E tU [.ref a0, .ref a1] m0 (some (.int rE)) mE (mT mE = mT m0 ∧ (rE = 0 ∨ rE = 1)) := by
  subst hm
  refine Ct.of (by decide) (Nat.le_of_ble_eq_true rfl) (fun p e s m below meth c ls C hr hk hnm hl hw => ?_)
  have hx := C.1
  have hb := C.2.1
  have hl : lv_has ls 3 [(0, .ref a0), (1, .ref a1)] := hl
  unfold f_X3_takesToken at hf
  refine lv_aload_n hx hb dX3_takesToken_0 rfl (lv_at hl 1 rfl) ?_
  refine lv_aload_n hx hb dX3_takesToken_1 rfl (lv_at hl 0 rfl) ?_
  refine x_getI C hw fa_X3_34 ta0 dX3_takesToken_2 ?_
  obtain ⟨r102, m101, cm101, hf⟩ := b2_el (o := f_X5_byteAt a1 (mI m0 a0 7) m0) hf
  refine x_callVi (As := [.int (mI m0 a0 7)]) (rest := []) C hl.1 hw cb_X3_61 cv_X5_byteAt (k_X5_byteAt hw.2.2.2.2 ta1 cm101) ta1 rfl rfl (by decide) ⟨Nat.le_refl _, Nat.le_refl _⟩ rfl (Nat.le_of_ble_eq_true rfl) dX3_takesToken_5 (fun H locs hw tr102 => ?_)
  refine lv_istore_n (lv' := [(2, .int r102), (0, .ref a0), (1, .ref a1)]) hx hb dX3_takesToken_8 rfl hl (by decide) rfl (fun ls hl => ?_)
  refine lv_iload_n hx hb dX3_takesToken_9 rfl (lv_at hl 0 rfl) ?_
  obtain ⟨r104, m103, cm103, hf⟩ := b2_el (o := f_X3_isLetter r102 m101) hf
  refine x_callSi (As := [.int r102]) (rest := []) C hl.1 hw cb_X3_65 cs_X3_isLetter (k_X3_isLetter hw.2.2.2.2  cm103) rfl (by decide) ⟨Nat.le_refl _, Nat.le_refl _⟩ rfl (Nat.le_of_ble_eq_true rfl) dX3_takesToken_10 (fun H locs hw tr104 => ?_)
  refine lv_if_eq (tgt := 26) hx hb dX3_takesToken_13 (by decide) (fun c => ?_) (fun c => ?_)
  · have hf := ifp hf c
    refine lv_iload_n hx hb dX3_takesToken_26 rfl (lv_at hl 0 rfl) ?_
    obtain ⟨r106, m105, cm105, hf⟩ := b2_el (o := f_X3_isDigit r102 m103) hf
    refine x_callSi (As := [.int r102]) (rest := []) C hl.1 hw cb_X3_76 cs_X3_isDigit (k_X3_isDigit hw.2.2.2.2  cm105) rfl (by decide) ⟨Nat.le_refl _, Nat.le_refl _⟩ rfl (Nat.le_of_ble_eq_true rfl) dX3_takesToken_27 (fun H locs hw tr106 => ?_)
    refine lv_if_eq (tgt := 43) hx hb dX3_takesToken_30 (by decide) (fun c => ?_) (fun c => ?_)
    · have hf := ifp hf c
      refine lv_aload_n hx hb dX3_takesToken_43 rfl (lv_at hl 1 rfl) ?_
      refine lv_dup hx hb dX3_takesToken_44 rfl ?_
      refine x_getI C hw fa_X3_34 ta0 dX3_takesToken_45 ?_
      refine lv_iconst hx hb dX3_takesToken_48 ki_1 ?_
      refine lv_iadd hx hb dX3_takesToken_49 ?_
      refine x_putI C hw fa_X3_34 ta0 dX3_takesToken_50 (fun m107 H locs em107 hw => ?_)
      have hf := nm_el hf em107
      refine lv_iload_n hx hb dX3_takesToken_53 rfl (lv_at hl 0 rfl) ?_
      by_cases c108 : r102 = 40
      · have hf := ifp hf c108
        refine lv_tableIn (off := 34) (tgt := 88) hx hb dX3_takesToken_54 (by rw [c108]; decide) (by rw [c108]; decide) (by rw [c108]; try rfl) (by decide) ?_
        refine lv_aload_n hx hb dX3_takesToken_88 rfl (lv_at hl 1 rfl) ?_
        obtain ⟨r110, m109, cm109, hf⟩ := b2_el (o := f_X3_takesOpen a0 m107) hf
        refine x_callVi (As := []) (rest := []) C hl.1 hw cb_X3_85 cv_X3_takesOpen (k_X3_takesOpen hw.2.2.2.2 ta0 cm109) ta0 rfl rfl (by decide) ⟨Nat.le_refl _, Nat.le_refl _⟩ rfl (Nat.le_of_ble_eq_true rfl) dX3_takesToken_89 (fun H locs hw tr110 => ?_)
        exact x_retZ C hr hk tr110 hw  hf (by decide) (by decide) dX3_takesToken_92
      · have hf := ifn hf c108
        by_cases c111 : r102 = 41
        · have hf := ifp hf c111
          refine lv_tableIn (off := 44) (tgt := 98) hx hb dX3_takesToken_54 (by rw [c111]; decide) (by rw [c111]; decide) (by rw [c111]; try rfl) (by decide) ?_
          refine lv_aload_n hx hb dX3_takesToken_98 rfl (lv_at hl 1 rfl) ?_
          obtain ⟨r113, m112, cm112, hf⟩ := b2_el (o := f_X3_takesClose a0 m107) hf
          refine x_callVi (As := []) (rest := []) C hl.1 hw cb_X3_92 cv_X3_takesClose (k_X3_takesClose hw.2.2.2.2 ta0 cm112) ta0 rfl rfl (by decide) ⟨Nat.le_refl _, Nat.le_refl _⟩ rfl (Nat.le_of_ble_eq_true rfl) dX3_takesToken_99 (fun H locs hw tr113 => ?_)
          exact x_retZ C hr hk tr113 hw  hf (by decide) (by decide) dX3_takesToken_102
        · have hf := ifn hf c111
          by_cases c114 : r102 = 42
          · have hf := ifp hf c114
            refine lv_tableIn (off := 49) (tgt := 103) hx hb dX3_takesToken_54 (by rw [c114]; decide) (by rw [c114]; decide) (by rw [c114]; try rfl) (by decide) ?_
            refine lv_iconst hx hb dX3_takesToken_103 ki_0 ?_
            exact x_retZ C hr hk (Or.inl rfl) hw  hf (by decide) (by decide) dX3_takesToken_104
          · have hf := ifn hf c114
            by_cases c115 : r102 = 43
            · have hf := ifp hf c115
              refine lv_tableIn (off := 49) (tgt := 103) hx hb dX3_takesToken_54 (by rw [c115]; decide) (by rw [c115]; decide) (by rw [c115]; try rfl) (by decide) ?_
              refine lv_iconst hx hb dX3_takesToken_103 ki_0 ?_
              exact x_retZ C hr hk (Or.inl rfl) hw  hf (by decide) (by decide) dX3_takesToken_104
            · have hf := ifn hf c115
              by_cases c116 : r102 = 44
              · have hf := ifp hf c116
                refine lv_tableIn (off := 39) (tgt := 93) hx hb dX3_takesToken_54 (by rw [c116]; decide) (by rw [c116]; decide) (by rw [c116]; try rfl) (by decide) ?_
                refine lv_aload_n hx hb dX3_takesToken_93 rfl (lv_at hl 1 rfl) ?_
                obtain ⟨r118, m117, cm117, hf⟩ := b2_el (o := f_X3_takesComma a0 m107) hf
                refine x_callVi (As := []) (rest := []) C hl.1 hw cb_X3_89 cv_X3_takesComma (k_X3_takesComma hw.2.2.2.2 ta0 cm117) ta0 rfl rfl (by decide) ⟨Nat.le_refl _, Nat.le_refl _⟩ rfl (Nat.le_of_ble_eq_true rfl) dX3_takesToken_94 (fun H locs hw tr118 => ?_)
                exact x_retZ C hr hk tr118 hw  hf (by decide) (by decide) dX3_takesToken_97
              · have hf := ifn hf c116
                refine lv_tableOut (tgt := 103) hx hb dX3_takesToken_54 (by
                    have hc108 := sw_ne (a := 40) c108 (by decide)
                    have hc111 := sw_ne (a := 41) c111 (by decide)
                    have hc114 := sw_ne (a := 42) c114 (by decide)
                    have hc115 := sw_ne (a := 43) c115 (by decide)
                    have hc116 := sw_ne (a := 44) c116 (by decide)
                    omega) (by decide) ?_
                refine lv_iconst hx hb dX3_takesToken_103 ki_0 ?_
                exact x_retZ C hr hk (Or.inl rfl) hw  hf (by decide) (by decide) dX3_takesToken_104
    · have hf := ifn hf c
      refine lv_aload_n hx hb dX3_takesToken_33 rfl (lv_at hl 1 rfl) ?_
      refine lv_aload_n hx hb dX3_takesToken_34 rfl (lv_at hl 1 rfl) ?_
      refine lv_aload_n hx hb dX3_takesToken_35 rfl (lv_at hl 2 rfl) ?_
      obtain ⟨r120, m119, cm119, hf⟩ := b2_el (o := f_X3_nextNumber a0 a1 m105) hf
      refine x_callVi (As := [.ref a1]) (rest := [.ref a0]) C hl.1 hw cb_X3_79 cv_X3_nextNumber (k_X3_nextNumber hw.2.2.2.2 ta0 ta1 cm119) ta0 rfl rfl (by decide) ⟨Nat.le_refl _, Nat.le_refl _⟩ rfl (Nat.le_of_ble_eq_true rfl) dX3_takesToken_36 (fun H locs hw tr120 => ?_)
      obtain ⟨r122, m121, cm121, hf⟩ := b2_el (o := f_X3_takesNumber a0 r120 m119) hf
      refine x_callVi (As := [.int r120]) (rest := []) C hl.1 hw cb_X3_82 cv_X3_takesNumber (k_X3_takesNumber hw.2.2.2.2 ta0 cm121) ta0 rfl rfl (by decide) ⟨Nat.le_refl _, Nat.le_refl _⟩ rfl (Nat.le_of_ble_eq_true rfl) dX3_takesToken_39 (fun H locs hw tr122 => ?_)
      exact x_retZ C hr hk tr122 hw  hf (by decide) (by decide) dX3_takesToken_42
  · have hf := ifn hf c
    refine lv_aload_n hx hb dX3_takesToken_16 rfl (lv_at hl 1 rfl) ?_
    refine lv_aload_n hx hb dX3_takesToken_17 rfl (lv_at hl 1 rfl) ?_
    refine lv_aload_n hx hb dX3_takesToken_18 rfl (lv_at hl 2 rfl) ?_
    obtain ⟨r124, m123, cm123, hf⟩ := b2_el (o := f_X3_nextWord a0 a1 m103) hf
    refine x_callVi (As := [.ref a1]) (rest := [.ref a0]) C hl.1 hw cb_X3_69 cv_X3_nextWord (k_X3_nextWord hw.2.2.2.2 ta0 ta1 cm123) ta0 rfl rfl (by decide) ⟨Nat.le_refl _, Nat.le_refl _⟩ rfl (Nat.le_of_ble_eq_true rfl) dX3_takesToken_19 (fun H locs hw tr124 => ?_)
    obtain ⟨r126, m125, cm125, hf⟩ := b2_el (o := f_X3_takesWord a0 r124 m123) hf
    refine x_callVi (As := [.int r124]) (rest := []) C hl.1 hw cb_X3_73 cv_X3_takesWord (k_X3_takesWord hw.2.2.2.2 ta0 cm125) ta0 rfl rfl (by decide) ⟨Nat.le_refl _, Nat.le_refl _⟩ rfl (Nat.le_of_ble_eq_true rfl) dX3_takesToken_22 (fun H locs hw tr126 => ?_)
    exact x_retZ C hr hk tr126 hw  hf (by decide) (by decide) dX3_takesToken_25
set_option maxHeartbeats 4000000 in
set_option maxRecDepth 100000 in
theorem w_X3_faultOf_j68 {p : Program} {l : Launch} {e : Env} {s : State} {m : MethodId} {args : Array Value} {below : List Frame} {meth : Method} {c : Code} {D : va_G} {E : Nat → ClassId} {tU : Nat} {m0 mE : XMem} {rE : Int32} (C : Cx p s m args c cX3_faultOf 4 RX3 D E (Am m0) tU) (hr : meth.sig.returnType = ((Option.some FieldType.int))) (hk : meth.locks = false) (hnm : meth.name = yX3_faultOf.name) {a0 : Nat} {a1 : Nat} {mu : XMem} {H : Heap} {locs : List Loc} {ls : Array Slot} (ta0 : mT m0 a0 = some (.inl 3)) (ta1 : mT m0 a1 = some (.inl 5)) (hl : lv_has ls 4 [(0, .ref a0), (1, .ref a1)]) (hw : Wd D E (Am m0) s (mT m0) mu H locs) (hf : f_X3_faultOf_j68 a0 a1 mu = some (rE, mE)) : W p l e (rmN 4 0 0) s m args below meth c H locs 0 0 (MQ below (XQ D E (Am m0) (some (.int rE)) mE (mT mE = mT m0 ∧ True)) args s 0 0 (Am m0)) (F0 m 68 ls []) := by
  have hx := C.1
  have hb := C.2.1
  unfold f_X3_faultOf_j68 at hf
  refine lv_aload_n hx hb dX3_faultOf_68 rfl (lv_at hl 0 rfl) ?_
  refine x_getI C hw fa_X3_28 ta0 dX3_faultOf_69 ?_
  refine lv_iconst hx hb dX3_faultOf_72 ki_2 ?_
  refine lv_icmp_ne (tgt := 87) hx hb dX3_faultOf_73 (by decide) (fun c => ?_) (fun c => ?_)
  · have hf := ifn hf c
    refine lv_aload_n hx hb dX3_faultOf_87 rfl (lv_at hl 1 rfl) ?_
    refine x_getI C hw fa_X3_41 ta1 dX3_faultOf_88 ?_
    exact x_retI C hr hk hw  hf (by decide) (by decide) dX3_faultOf_91
  · have hf := ifp hf c
    refine lv_aload_n hx hb dX3_faultOf_76 rfl (lv_at hl 0 rfl) ?_
    refine x_getI C hw fa_X3_25 ta0 dX3_faultOf_77 ?_
    refine lv_if_ne (tgt := 87) hx hb dX3_faultOf_80 (by decide) (fun c => ?_) (fun c => ?_)
    · have hf := ifn hf c
      refine lv_aload_n hx hb dX3_faultOf_87 rfl (lv_at hl 1 rfl) ?_
      refine x_getI C hw fa_X3_41 ta1 dX3_faultOf_88 ?_
      exact x_retI C hr hk hw  hf (by decide) (by decide) dX3_faultOf_91
    · have hf := ifp hf c
      refine lv_iconst hx hb dX3_faultOf_83 ki_m1 ?_
      refine lv_goto (tgt := 91) hx hb dX3_faultOf_84 (by decide) ?_
      exact x_retI C hr hk hw  hf (by decide) (by decide) dX3_faultOf_91
set_option maxHeartbeats 4000000 in
set_option maxRecDepth 100000 in
theorem w_X3_faultOf_h22 {p : Program} {l : Launch} {e : Env} {s : State} {m : MethodId} {args : Array Value} {below : List Frame} {meth : Method} {c : Code} {D : va_G} {E : Nat → ClassId} {tU : Nat} {m0 mE : XMem} {rE : Int32} (C : Cx p s m args c cX3_faultOf 4 RX3 D E (Am m0) tU) (hr : meth.sig.returnType = ((Option.some FieldType.int))) (hk : meth.locks = false) (hnm : meth.name = yX3_faultOf.name) {a0 : Nat} {a1 : Nat} (ta0 : mT m0 a0 = some (.inl 3)) (ta1 : mT m0 a1 = some (.inl 5)) {k44 :  XMem → Option (Int32 × XMem)} {k60 : Int32 →  XMem → Option (Int32 × XMem)} {k68 :  XMem → Option (Int32 × XMem)} (hk44 : ∀  (mu : XMem) (H : Heap) (locs : List Loc) (ls : Array Slot), lv_has ls 4 [(0, .ref a0), (1, .ref a1)] → Wd D E (Am m0) s (mT m0) mu H locs →   k44  mu = some (rE, mE) → W p l e (rmN 4 0 0) s m args below meth c H locs 0 0 (MQ below (XQ D E (Am m0) (some (.int rE)) mE (mT mE = mT m0 ∧ True)) args s 0 0 (Am m0)) (F0 m 44 ls [])) (hk60 : ∀ (y3 : Int32) (mu : XMem) (H : Heap) (locs : List Loc) (ls : Array Slot), lv_has ls 4 [(3, .int y3)] → Wd D E (Am m0) s (mT m0) mu H locs →   k60 y3 mu = some (rE, mE) → W p l e (rmN 4 0 0) s m args below meth c H locs 0 0 (MQ below (XQ D E (Am m0) (some (.int rE)) mE (mT mE = mT m0 ∧ True)) args s 0 0 (Am m0)) (F0 m 60 ls [])) (hk68 : ∀  (mu : XMem) (H : Heap) (locs : List Loc) (ls : Array Slot), lv_has ls 4 [(0, .ref a0), (1, .ref a1)] → Wd D E (Am m0) s (mT m0) mu H locs →   k68  mu = some (rE, mE) → W p l e (rmN 4 0 0) s m args below meth c H locs 0 0 (MQ below (XQ D E (Am m0) (some (.int rE)) mE (mT mE = mT m0 ∧ True)) args s 0 0 (Am m0)) (F0 m 68 ls [])) : ∀ (n : Nat) (x2 : Int32) (mu : XMem) (H : Heap) (locs : List Loc) (ls : Array Slot), lv_has ls 4 [(0, .ref a0), (1, .ref a1), (2, .int x2)] → Wd D E (Am m0) s (mT m0) mu H locs → f_X3_faultOf_h22 a0 a1 k44 k60 k68 n x2 mu = some (rE, mE) → W p l e (rmN 4 0 0) s m args below meth c H locs 0 0 (MQ below (XQ D E (Am m0) (some (.int rE)) mE (mT mE = mT m0 ∧ True)) args s 0 0 (Am m0)) (F0 m 22 ls []) := by
  have hx := C.1
  have hb := C.2.1
  intro n
  induction n with
  | zero =>
    intros
    rename_i hf
    cases hf
  | succ n ih =>
    intro x2 mu H locs ls hl hw hf
    rw [f_X3_faultOf_h22] at hf
    refine lv_iload_n hx hb dX3_faultOf_22 rfl (lv_at hl 2 rfl) ?_
    refine lv_bipush hx hb dX3_faultOf_23 kb_100 ?_
    refine lv_icmp_gt (tgt := 68) hx hb dX3_faultOf_25 (by decide) (fun c => ?_) (fun c => ?_)
    · have hf := ifp hf c
      exact hk68 _ _ _ _ (lv_sub hl [0, 1] rfl) hw hf
    · have hf := ifn hf c
      refine lv_aload_n hx hb dX3_faultOf_28 rfl (lv_at hl 0 rfl) ?_
      refine lv_aload_n hx hb dX3_faultOf_29 rfl (lv_at hl 1 rfl) ?_
      obtain ⟨m109, cm109, hf⟩ := b1_el (o := f_X3_skipBlanks a0 a1 mu) hf
      refine x_callVv (As := [.ref a1]) (rest := []) C hl.1 hw cb_X3_37 cv_X3_skipBlanks (k_X3_skipBlanks hw.2.2.2.2 ta0 ta1 cm109) ta0 rfl rfl (by decide) ⟨Nat.le_refl _, Nat.le_refl _⟩ rfl (Nat.le_of_ble_eq_true rfl) dX3_faultOf_30 (fun H locs hw tm109 => ?_)
      refine lv_aload_n hx hb dX3_faultOf_33 rfl (lv_at hl 0 rfl) ?_
      refine x_getI C hw fa_X3_34 ta0 dX3_faultOf_34 ?_
      refine lv_aload_n hx hb dX3_faultOf_37 rfl (lv_at hl 1 rfl) ?_
      refine x_getI C hw fa_X3_41 ta1 dX3_faultOf_38 ?_
      refine lv_icmp_lt (tgt := 47) hx hb dX3_faultOf_41 (by decide) (fun c => ?_) (fun c => ?_)
      · have hf := ifp hf c
        refine lv_aload_n hx hb dX3_faultOf_47 rfl (lv_at hl 0 rfl) ?_
        refine x_getI C hw fa_X3_34 ta0 dX3_faultOf_48 ?_
        refine lv_topi (fun x110 ex110 => ?_)
        have hf := nm_el hf ex110
        refine lv_istore_n (lv' := [(3, .int x110), (0, .ref a0), (1, .ref a1), (2, .int x2)]) hx hb dX3_faultOf_51 rfl hl (by decide) rfl (fun ls hl => ?_)
        refine lv_aload_n hx hb dX3_faultOf_52 rfl (lv_at hl 1 rfl) ?_
        refine lv_aload_n hx hb dX3_faultOf_53 rfl (lv_at hl 2 rfl) ?_
        obtain ⟨r112, m111, cm111, hf⟩ := b2_el (o := f_X3_takesToken a0 a1 m109) hf
        refine x_callVi (As := [.ref a1]) (rest := []) C hl.1 hw cb_X3_46 cv_X3_takesToken (k_X3_takesToken hw.2.2.2.2 ta0 ta1 cm111) ta0 rfl rfl (by decide) ⟨Nat.le_refl _, Nat.le_refl _⟩ rfl (Nat.le_of_ble_eq_true rfl) dX3_faultOf_54 (fun H locs hw tr112 => ?_)
        refine lv_if_ne (tgt := 62) hx hb dX3_faultOf_57 (by decide) (fun c => ?_) (fun c => ?_)
        · have hf := ifn hf c
          obtain ⟨x113, ex113⟩ : ∃ z : Int32, z = x2 + 1 := ⟨_, rfl⟩
          have hf := nm_el hf ex113
          refine lv_iinc (v := x113) (lv' := [(2, .int x113), (3, .int x110), (0, .ref a0), (1, .ref a1)]) hx hb dX3_faultOf_62 hl (k := 3) rfl (by rw [ex113, ki_1]) (by decide) rfl (fun ls hl => ?_)
          refine lv_goto (tgt := 22) hx hb dX3_faultOf_65 (by decide) ?_
          exact ih _ _ _ _ _ (lv_sub hl [2, 3, 0] rfl) hw hf
        · have hf := ifp hf c
          exact hk60 _ _ _ _ _ (lv_sub hl [0] rfl) hw hf
      · have hf := ifn hf c
        exact hk44 _ _ _ _ (lv_sub hl [0, 1] rfl) hw hf
set_option maxHeartbeats 4000000 in
set_option maxRecDepth 100000 in
theorem k_X3_faultOf {l : Launch} {D : va_G} {E : Nat → ClassId} {tU : Nat} {τ : Nat → Option XTy} {a0 : Nat} {a1 : Nat} {m0 mE : XMem} {rE : Int32} (hm : mT m0 = τ) (ta0 : τ a0 = some (.inl 3)) (ta1 : τ a1 = some (.inl 5)) (hf : f_X3_faultOf a0 a1 m0 = some (rE, mE)) : Ct l yX3_faultOf cX3_faultOf 4 ((Option.some FieldType.int)) 4 0 0 D E tU [.ref a0, .ref a1] m0 (some (.int rE)) mE (mT mE = mT m0 ∧ True) := by
  subst hm
  refine Ct.of (by decide) (Nat.le_of_ble_eq_true rfl) (fun p e s m below meth c ls C hr hk hnm hl hw => ?_)
  have hx := C.1
  have hb := C.2.1
  have hl : lv_has ls 4 [(0, .ref a0), (1, .ref a1)] := hl
  unfold f_X3_faultOf at hf
  refine lv_aload_n hx hb dX3_faultOf_0 rfl (lv_at hl 0 rfl) ?_
  refine lv_iconst hx hb dX3_faultOf_1 ki_0 ?_
  refine x_putI C hw fa_X3_15 ta0 dX3_faultOf_2 (fun m101 H locs em101 hw => ?_)
  have hf := nm_el hf em101
  refine lv_aload_n hx hb dX3_faultOf_5 rfl (lv_at hl 0 rfl) ?_
  refine lv_iconst hx hb dX3_faultOf_6 ki_0 ?_
  refine x_putI C hw fa_X3_25 ta0 dX3_faultOf_7 (fun m102 H locs em102 hw => ?_)
  have hf := nm_el hf em102
  refine lv_aload_n hx hb dX3_faultOf_10 rfl (lv_at hl 0 rfl) ?_
  refine lv_iconst hx hb dX3_faultOf_11 ki_0 ?_
  refine x_putI C hw fa_X3_28 ta0 dX3_faultOf_12 (fun m103 H locs em103 hw => ?_)
  have hf := nm_el hf em103
  refine lv_aload_n hx hb dX3_faultOf_15 rfl (lv_at hl 0 rfl) ?_
  refine lv_iconst hx hb dX3_faultOf_16 ki_0 ?_
  refine x_putI C hw fa_X3_34 ta0 dX3_faultOf_17 (fun m104 H locs em104 hw => ?_)
  have hf := nm_el hf em104
  refine lv_iconst hx hb dX3_faultOf_20 ki_0 ?_
  refine lv_istore_n (lv' := [(2, .int 0), (0, .ref a0), (1, .ref a1)]) hx hb dX3_faultOf_21 rfl hl (by decide) rfl (fun ls hl => ?_)
  refine w_X3_faultOf_h22 C hr hk hnm ta0 ta1 ?_ ?_ ?_ 2000 _ _ _ _ _ (lv_sub hl [1, 2, 0] rfl) hw hf
  · intro m105 H locs ls hl hw hf
    refine lv_goto (tgt := 68) hx hb dX3_faultOf_44 (by decide) ?_
    exact w_X3_faultOf_j68 C hr hk hnm ta0 ta1 (lv_sub hl [0, 1] rfl) hw hf
  · intro x107 m106 H locs ls hl hw hf
    refine lv_iload_n hx hb dX3_faultOf_60 rfl (lv_at hl 0 rfl) ?_
    exact x_retI C hr hk hw  hf (by decide) (by decide) dX3_faultOf_61
  · intro m108 H locs ls hl hw hf
    exact w_X3_faultOf_j68 C hr hk hnm ta0 ta1 (lv_sub hl [0, 1] rfl) hw hf
set_option maxHeartbeats 4000000 in
set_option maxRecDepth 100000 in
theorem k_X3_init {l : Launch} {D : va_G} {E : Nat → ClassId} {tU : Nat} {τ : Nat → Option XTy} {a0 : Nat} {m0 mE : XMem} (hm : mT m0 = τ) (ta0 : τ a0 = some (.inl 3)) (hf : f_X3_init a0 m0 = some mE) : Ct l yX3_init cX3_init 1 ((Option.none : Option FieldType)) 1 3 110 D E tU [.ref a0] m0 (none) mE (XA m0 mE ∧ True) := by
  subst hm
  refine Ct.of (by decide) (Nat.le_of_ble_eq_true rfl) (fun p e s m below meth c ls C hr hk hnm hl hw => ?_)
  have hx := C.1
  have hb := C.2.1
  have hl : lv_has ls 1 [(0, .ref a0)] := hl
  unfold f_X3_init at hf
  have hmo : ∀ q u, mT m0 q = some u → mT m0 q = some u := fun _ _ h => h
  refine lv_aload_n hx hb dX3_init_0 rfl (lv_at hl 0 rfl) ?_
  refine x_obj C hl.1 ko_X3_3 ko_i ko_c (by decide) (Nat.le_of_ble_eq_true rfl) (by decide) dX3_init_1 ?_
  refine lv_aload_n hx hb dX3_init_4 rfl (lv_at hl 0 rfl) ?_
  refine lv_bipush hx hb dX3_init_5 kb_100 ?_
  refine x_newI (N := 100) C hw (by decide) (by decide) (by decide) (by decide) (by decide) dX3_init_7 (fun b101 m102 H Tm102 eb101 em102 hw tb101 mom102 => ?_)
  have hf := nm_el hf eb101
  have hf := nm_el hf em102
  have tb101 : ∃ n, Tm102 b101 = some (.inr (0, n)) := ⟨_, tb101⟩
  have ta0 := mom102 _ _ ta0
  have hmo := fun q u h => mom102 q u (hmo q u h)
  refine x_putFR C hnm hw fa_X3_9 (Or.inr ⟨_, rfl⟩) rfl ta0 tb101 dX3_init_9 (fun m103 H locs em103 hw => ?_)
  have hf := nm_el hf em103
  refine lv_aload_n hx hb dX3_init_12 rfl (lv_at hl 0 rfl) ?_
  refine lv_iconst hx hb dX3_init_13 ki_0 ?_
  refine x_putI C hw fa_X3_15 ta0 dX3_init_14 (fun m104 H locs em104 hw => ?_)
  have hf := nm_el hf em104
  refine lv_aload_n hx hb dX3_init_17 rfl (lv_at hl 0 rfl) ?_
  refine lv_iconst hx hb dX3_init_18 ki_5 ?_
  refine x_newI (N := 5) C hw (by decide) (by decide) (by decide) (by decide) (by decide) dX3_init_19 (fun b105 m106 H Tm106 eb105 em106 hw tb105 mom106 => ?_)
  have hf := nm_el hf eb105
  have hf := nm_el hf em106
  have tb105 : ∃ n, Tm106 b105 = some (.inr (0, n)) := ⟨_, tb105⟩
  have ta0 := mom106 _ _ ta0
  have hmo := fun q u h => mom106 q u (hmo q u h)
  refine x_putFR C hnm hw fa_X3_19 (Or.inr ⟨_, rfl⟩) rfl ta0 tb105 dX3_init_21 (fun m107 H locs em107 hw => ?_)
  have hf := nm_el hf em107
  refine lv_aload_n hx hb dX3_init_24 rfl (lv_at hl 0 rfl) ?_
  refine lv_iconst hx hb dX3_init_25 ki_5 ?_
  refine x_newI (N := 5) C hw (by decide) (by decide) (by decide) (by decide) (by decide) dX3_init_26 (fun b108 m109 H Tm109 eb108 em109 hw tb108 mom109 => ?_)
  have hf := nm_el hf eb108
  have hf := nm_el hf em109
  have tb108 : ∃ n, Tm109 b108 = some (.inr (0, n)) := ⟨_, tb108⟩
  have ta0 := mom109 _ _ ta0
  have hmo := fun q u h => mom109 q u (hmo q u h)
  refine x_putFR C hnm hw fa_X3_22 (Or.inr ⟨_, rfl⟩) rfl ta0 tb108 dX3_init_28 (fun m110 H locs em110 hw => ?_)
  have hf := nm_el hf em110
  refine lv_aload_n hx hb dX3_init_31 rfl (lv_at hl 0 rfl) ?_
  refine lv_iconst hx hb dX3_init_32 ki_0 ?_
  refine x_putI C hw fa_X3_25 ta0 dX3_init_33 (fun m111 H locs em111 hw => ?_)
  have hf := nm_el hf em111
  refine lv_aload_n hx hb dX3_init_36 rfl (lv_at hl 0 rfl) ?_
  refine lv_iconst hx hb dX3_init_37 ki_0 ?_
  refine x_putI C hw fa_X3_28 ta0 dX3_init_38 (fun m112 H locs em112 hw => ?_)
  have hf := nm_el hf em112
  refine lv_aload_n hx hb dX3_init_41 rfl (lv_at hl 0 rfl) ?_
  refine lv_iconst hx hb dX3_init_42 ki_0 ?_
  refine x_putI C hw fa_X3_31 ta0 dX3_init_43 (fun m113 H locs em113 hw => ?_)
  have hf := nm_el hf em113
  refine lv_aload_n hx hb dX3_init_46 rfl (lv_at hl 0 rfl) ?_
  refine lv_iconst hx hb dX3_init_47 ki_0 ?_
  refine x_putI C hw fa_X3_34 ta0 dX3_init_48 (fun m114 H locs em114 hw => ?_)
  have hf := nm_el hf em114
  exact x_retN C hr hk hw hmo hf (by decide) (by decide) dX3_init_51
set_option maxHeartbeats 4000000 in
set_option maxRecDepth 100000 in
theorem k_X6_init {l : Launch} {D : va_G} {E : Nat → ClassId} {tU : Nat} {τ : Nat → Option XTy} {a0 : Nat} {a1 : Nat} {m0 mE : XMem} (hm : mT m0 = τ) (ta0 : τ a0 = some (.inl 6)) (ta1 : ∃ n, τ a1 = some (.inr (0, n))) (hf : f_X6_init a0 a1 m0 = some mE) : Ct l yX6_init cX6_init 2 ((Option.none : Option FieldType)) 1 0 0 D E tU [.ref a0, .ref a1] m0 (none) mE (mT mE = mT m0 ∧ True) := by
  subst hm
  refine Ct.of (by decide) (Nat.le_of_ble_eq_true rfl) (fun p e s m below meth c ls C hr hk hnm hl hw => ?_)
  have hx := C.1
  have hb := C.2.1
  have hl : lv_has ls 2 [(0, .ref a0), (1, .ref a1)] := hl
  unfold f_X6_init at hf
  refine lv_aload_n hx hb dX6_init_0 rfl (lv_at hl 0 rfl) ?_
  refine x_obj C hl.1 ko_X6_1 ko_i ko_c (by decide) (Nat.le_of_ble_eq_true rfl) (by decide) dX6_init_1 ?_
  refine lv_aload_n hx hb dX6_init_4 rfl (lv_at hl 0 rfl) ?_
  refine lv_aload_n hx hb dX6_init_5 rfl (lv_at hl 1 rfl) ?_
  refine x_putFR C hnm hw fa_X6_7 (Or.inr ⟨_, rfl⟩) rfl ta0 ta1 dX6_init_6 (fun m101 H locs em101 hw => ?_)
  have hf := nm_el hf em101
  exact x_ret C hr hk hw  hf (by decide) (by decide) dX6_init_9
set_option maxHeartbeats 4000000 in
set_option maxRecDepth 100000 in
theorem w_X3_text_h13 {KC KS : Nat} {p : Program} {l : Launch} {e : Env} {s : State} {m : MethodId} {args : Array Value} {below : List Frame} {meth : Method} {c : Code} {D : va_G} {E : Nat → ClassId} {tU : Nat} {m0 mE : XMem} {rE : Option Nat} (C : Cx p s m args c cX3_text 3 RX3 D E (Am m0) tU) (hr : meth.sig.returnType = ((Option.some (FieldType.object "WarmGlass$Text")))) (hk : meth.locks = false) (hnm : meth.name = yX3_text.name) (hKC : KC ≤ 2) (hKS : KS ≤ 101) {a0 : Nat} {a1 : Nat} {k43 :  XMem → Option (Option Nat × XMem)} (hk43 : ∀  (mu : XMem) (T : Nat → Option XTy) (H : Heap) (locs : List Loc) (ls : Array Slot), lv_has ls 3 [(1, .ref a1)] → Wd D E (Am m0) s T mu H locs → (T a0 = some (.inl 3)) → (∃ n, T a1 = some (.inr (0, n))) → (∀ q u, mT m0 q = some u → T q = some u) → k43  mu = some (rE, mE) → W p l e (rmN 2 2 101) s m args below meth c H locs KC KS (MQ below (XQ D E (Am m0) (some (va_rf rE)) mE (XA m0 mE ∧ (∀ b, rE = some b → mT mE b = some (.inl 6)))) args s 2 101 (Am m0)) (F0 m 43 ls [])) : ∀ (n : Nat) (x2 : Int32) (mu : XMem) (T : Nat → Option XTy) (H : Heap) (locs : List Loc) (ls : Array Slot) (cs sl : Nat), lv_has ls 3 [(0, .ref a0), (1, .ref a1), (2, .int x2)] → Wd D E (Am m0) s T mu H locs → (T a0 = some (.inl 3)) → (∃ n, T a1 = some (.inr (0, n))) → (∀ q u, mT m0 q = some u → T q = some u) → cs + n * 0 ≤ KC → sl + n * 0 ≤ KS → f_X3_text_h13 a0 a1 k43 n x2 mu = some (rE, mE) → W p l e (rmN 2 2 101) s m args below meth c H locs cs sl (MQ below (XQ D E (Am m0) (some (va_rf rE)) mE (XA m0 mE ∧ (∀ b, rE = some b → mT mE b = some (.inl 6)))) args s 2 101 (Am m0)) (F0 m 13 ls []) := by
  have hx := C.1
  have hb := C.2.1
  intro n
  induction n with
  | zero =>
    intros
    rename_i hf
    cases hf
  | succ n ih =>
    intro x2 mu T H locs ls cs sl hl hw ta0 ta1 hmo hcb hsb hf
    rw [f_X3_text_h13] at hf
    simp only [Nat.add_mul, Nat.one_mul] at hcb hsb
    refine lv_iload_n hx hb dX3_text_13 rfl (lv_at hl 2 rfl) ?_
    refine lv_aload_n hx hb dX3_text_14 rfl (lv_at hl 1 rfl) ?_
    refine x_alen (ek := 0) C hw rfl ta1 dX3_text_15 ?_
    refine lv_icmp_ge (tgt := 43) hx hb dX3_text_16 (by decide) (fun c => ?_) (fun c => ?_)
    · have hf := ifp hf c
      refine W.widen (k := KC) (n := KS) (by omega) (by omega) ?_
      exact hk43 _ _ _ _ _ (lv_sub hl [1] rfl) hw ta0 ta1 hmo hf
    · have hf := ifn hf c
      refine lv_iload_n hx hb dX3_text_19 rfl (lv_at hl 2 rfl) ?_
      refine lv_aload_n hx hb dX3_text_20 rfl (lv_at hl 0 rfl) ?_
      obtain ⟨b109, eb109, hf⟩ := fo_el hf
      refine x_getR C hw fa_X3_9 (Or.inr ⟨_, rfl⟩) ta0 eb109 dX3_text_21 (fun tb109 => ?_)
      have tb109 : ∃ n, T b109 = some (.inr (0, n)) := tb109
      refine x_alen (ek := 0) C hw rfl tb109 dX3_text_24 ?_
      refine lv_icmp_ge (tgt := 43) hx hb dX3_text_25 (by decide) (fun c => ?_) (fun c => ?_)
      · have hf := ifp hf c
        refine W.widen (k := KC) (n := KS) (by omega) (by omega) ?_
        exact hk43 _ _ _ _ _ (lv_sub hl [1] rfl) hw ta0 ta1 hmo hf
      · have hf := ifn hf c
        refine lv_aload_n hx hb dX3_text_28 rfl (lv_at hl 1 rfl) ?_
        refine lv_iload_n hx hb dX3_text_29 rfl (lv_at hl 2 rfl) ?_
        refine lv_aload_n hx hb dX3_text_30 rfl (lv_at hl 0 rfl) ?_
        obtain ⟨b110, eb110, hf⟩ := fo_el hf
        refine x_getR C hw fa_X3_9 (Or.inr ⟨_, rfl⟩) ta0 eb110 dX3_text_31 (fun tb110 => ?_)
        have tb110 : ∃ n, T b110 = some (.inr (0, n)) := tb110
        refine lv_iload_n hx hb dX3_text_34 rfl (lv_at hl 2 rfl) ?_
        obtain ⟨g111, hf⟩ := gd_el hf
        refine x_iald C hw tb110 g111 dX3_text_35 ?_
        obtain ⟨g112, hf⟩ := gd_el hf
        refine x_iast C hw ta1 g112 dX3_text_36 (fun m113 H locs em113 hw => ?_)
        have hf := nm_el hf em113
        obtain ⟨x114, ex114⟩ : ∃ z : Int32, z = x2 + 1 := ⟨_, rfl⟩
        have hf := nm_el hf ex114
        refine lv_iinc (v := x114) (lv' := [(2, .int x114), (0, .ref a0), (1, .ref a1)]) hx hb dX3_text_37 hl (k := 2) rfl (by rw [ex114, ki_1]) (by decide) rfl (fun ls hl => ?_)
        refine lv_goto (tgt := 13) hx hb dX3_text_40 (by decide) ?_
        refine ih _ _ _ _ _ _ _ _ (lv_sub hl [1, 2, 0] rfl) hw ta0 ta1 hmo ?_ ?_ hf
        · omega
        · omega
set_option maxHeartbeats 4000000 in
set_option maxRecDepth 100000 in
theorem k_X3_text {l : Launch} {D : va_G} {E : Nat → ClassId} {tU : Nat} {τ : Nat → Option XTy} {a0 : Nat} {m0 mE : XMem} {rE : Option Nat} (hm : mT m0 = τ) (ta0 : τ a0 = some (.inl 3)) (hf : f_X3_text a0 m0 = some (rE, mE)) : Ct l yX3_text cX3_text 3 ((Option.some (FieldType.object "WarmGlass$Text"))) 2 2 101 D E tU [.ref a0] m0 (some (va_rf rE)) mE (XA m0 mE ∧ (∀ b, rE = some b → mT mE b = some (.inl 6))) := by
  subst hm
  refine Ct.of (by decide) (Nat.le_of_ble_eq_true rfl) (fun p e s m below meth c ls C hr hk hnm hl hw => ?_)
  have hx := C.1
  have hb := C.2.1
  have hl : lv_has ls 3 [(0, .ref a0)] := hl
  unfold f_X3_text at hf
  have hmo : ∀ q u, mT m0 q = some u → mT m0 q = some u := fun _ _ h => h
  refine lv_iconst hx hb dX3_text_0 ki_0 ?_
  refine lv_aload_n hx hb dX3_text_1 rfl (lv_at hl 0 rfl) ?_
  refine x_getI C hw fa_X3_15 ta0 dX3_text_2 ?_
  refine x_mmax C hl.1 km_X3_50 (by decide) (Nat.le_of_ble_eq_true rfl) (by decide) (by decide) (by decide) dX3_text_5 ?_
  refine lv_topi (fun x101 ex101 => ?_)
  have hf := nm_el hf ex101
  obtain ⟨g104, hf⟩ := gd_el hf
  obtain ⟨g104a, g104b⟩ := szb_el g104
  refine x_newI (N := (Int32.toNatClampNeg x101)) C hw g104a rfl (by omega) (by decide) (by simp only [rmN]; omega) dX3_text_8 (fun b102 m103 H Tm103 eb102 em103 hw tb102 mom103 => ?_)
  have hf := nm_el hf eb102
  have hf := nm_el hf em103
  have tb102 : ∃ n, Tm103 b102 = some (.inr (0, n)) := ⟨_, tb102⟩
  have ta0 := mom103 _ _ ta0
  have hmo := fun q u h => mom103 q u (hmo q u h)
  refine W.widen (k := 1) (n := 100) (by omega) (by omega) ?_
  refine lv_astore_n (lv' := [(1, .ref b102), (0, .ref a0)]) hx hb dX3_text_10 rfl hl (by decide) rfl (fun ls hl => ?_)
  refine lv_iconst hx hb dX3_text_11 ki_0 ?_
  refine lv_istore_n (lv' := [(2, .int 0), (1, .ref b102), (0, .ref a0)]) hx hb dX3_text_12 rfl hl (by decide) rfl (fun ls hl => ?_)
  refine w_X3_text_h13 (KC := 1) (KS := 100) C hr hk hnm (by decide) (by decide) ?_ 200 _ _ _ _ _ _ _ _ (lv_sub hl [2, 1, 0] rfl) hw ta0 tb102 hmo (by decide) (by decide) hf
  intro m105 Tm105 H locs ls hl hw ta0 tb102 hmo hf
  refine x_new C hw xc_6 kc_X3_56 kn_X6 in_X6 (by decide) (by decide) dX3_text_43 (fun b106 m107 H Tm107 eb106 em107 hw tb106 mom107 => ?_)
  have hf := nm_el hf eb106
  have hf := nm_el hf em107
  have tb102 := xmo mom107 tb102
  have hmo := fun q u h => mom107 q u (hmo q u h)
  refine lv_dup hx hb dX3_text_46 rfl ?_
  refine lv_aload_n hx hb dX3_text_47 rfl (lv_at hl 0 rfl) ?_
  obtain ⟨m108, cm108, hf⟩ := b1_el (o := f_X6_init b106 b102 m107) hf
  refine x_callIv (As := [.ref b102]) (rest := [.ref b106]) C hl.1 hw cb_X3_58 rfl ci_X6_init (k_X6_init hw.2.2.2.2 tb106 tb102 cm108) rfl (by decide) ⟨(by decide), (by decide)⟩ rfl (Nat.le_of_ble_eq_true rfl) dX3_text_48 (fun H locs hw tm108 => ?_)
  exact x_retQN (o := (some b106)) C hr hk hw hmo (fun b h => by cases h; exact tb106) hf (by decide) (by decide) dX3_text_51
set_option maxHeartbeats 4000000 in
set_option maxRecDepth 100000 in
theorem w_X4_begin_h24 {p : Program} {l : Launch} {e : Env} {s : State} {m : MethodId} {args : Array Value} {below : List Frame} {meth : Method} {c : Code} {D : va_G} {E : Nat → ClassId} {tU : Nat} {m0 mE : XMem} (C : Cx p s m args c cX4_begin 4 RX4 D E (Am m0) tU) (hr : meth.sig.returnType = ((Option.none : Option FieldType))) (hk : meth.locks = false) (hnm : meth.name = yX4_begin.name) {a0 : Nat} (ta0 : mT m0 a0 = some (.inl 4)) {k46 :  XMem → Option (XMem)} (hk46 : ∀  (mu : XMem) (H : Heap) (locs : List Loc) (ls : Array Slot), lv_has ls 4 [] → Wd D E (Am m0) s (mT m0) mu H locs →   k46  mu = some mE → W p l e (rmN 1 0 0) s m args below meth c H locs 0 0 (MQ below (XQ D E (Am m0) (none) mE (mT mE = mT m0 ∧ True)) args s 0 0 (Am m0)) (F0 m 46 ls [])) : ∀ (n : Nat) (x3 : Int32) (mu : XMem) (H : Heap) (locs : List Loc) (ls : Array Slot), lv_has ls 4 [(0, .ref a0), (3, .int x3)] → Wd D E (Am m0) s (mT m0) mu H locs → f_X4_begin_h24 a0 k46 n x3 mu = some mE → W p l e (rmN 1 0 0) s m args below meth c H locs 0 0 (MQ below (XQ D E (Am m0) (none) mE (mT mE = mT m0 ∧ True)) args s 0 0 (Am m0)) (F0 m 24 ls []) := by
  have hx := C.1
  have hb := C.2.1
  intro n
  induction n with
  | zero =>
    intros
    rename_i hf
    cases hf
  | succ n ih =>
    intro x3 mu H locs ls hl hw hf
    rw [f_X4_begin_h24] at hf
    refine lv_iload_n hx hb dX4_begin_24 rfl (lv_at hl 1 rfl) ?_
    refine lv_aload_n hx hb dX4_begin_25 rfl (lv_at hl 0 rfl) ?_
    obtain ⟨b107, eb107, hf⟩ := fo_el hf
    refine x_getR C hw fa_X4_18 (Or.inr ⟨_, rfl⟩) ta0 eb107 dX4_begin_26 (fun tb107 => ?_)
    have tb107 : ∃ n, (mT m0) b107 = some (.inr (2, n)) := tb107
    refine x_alen (ek := 2) C hw rfl tb107 dX4_begin_29 ?_
    refine lv_icmp_ge (tgt := 46) hx hb dX4_begin_30 (by decide) (fun c => ?_) (fun c => ?_)
    · have hf := ifp hf c
      exact hk46 _ _ _ _ (lv_sub hl [] rfl) hw hf
    · have hf := ifn hf c
      refine lv_aload_n hx hb dX4_begin_33 rfl (lv_at hl 0 rfl) ?_
      obtain ⟨b108, eb108, hf⟩ := fo_el hf
      refine x_getR C hw fa_X4_18 (Or.inr ⟨_, rfl⟩) ta0 eb108 dX4_begin_34 (fun tb108 => ?_)
      have tb108 : ∃ n, (mT m0) b108 = some (.inr (2, n)) := tb108
      refine lv_iload_n hx hb dX4_begin_37 rfl (lv_at hl 1 rfl) ?_
      refine lv_lconst hx hb dX4_begin_38 kl_0 ?_
      obtain ⟨g109, hf⟩ := gd_el hf
      refine x_last C hw tb108 g109 dX4_begin_39 (fun m110 H locs em110 hw => ?_)
      have hf := nm_el hf em110
      obtain ⟨x111, ex111⟩ : ∃ z : Int32, z = x3 + 1 := ⟨_, rfl⟩
      have hf := nm_el hf ex111
      refine lv_iinc (v := x111) (lv' := [(3, .int x111), (0, .ref a0)]) hx hb dX4_begin_40 hl (k := 1) rfl (by rw [ex111, ki_1]) (by decide) rfl (fun ls hl => ?_)
      refine lv_goto (tgt := 24) hx hb dX4_begin_43 (by decide) ?_
      exact ih _ _ _ _ _ (lv_sub hl [1, 0] rfl) hw hf
set_option maxHeartbeats 4000000 in
set_option maxRecDepth 100000 in
theorem k_X4_begin {l : Launch} {D : va_G} {E : Nat → ClassId} {tU : Nat} {τ : Nat → Option XTy} {a0 : Nat} {x1 : Int32} {x2 : Int32} {m0 mE : XMem} (hm : mT m0 = τ) (ta0 : τ a0 = some (.inl 4)) (hf : f_X4_begin a0 x1 x2 m0 = some mE) : Ct l yX4_begin cX4_begin 4 ((Option.none : Option FieldType)) 1 0 0 D E tU [.ref a0, .int x1, .int x2] m0 (none) mE (mT mE = mT m0 ∧ True) := by
  subst hm
  refine Ct.of (by decide) (Nat.le_of_ble_eq_true rfl) (fun p e s m below meth c ls C hr hk hnm hl hw => ?_)
  have hx := C.1
  have hb := C.2.1
  have hl : lv_has ls 4 [(0, .ref a0), (1, .int x1), (2, .int x2)] := hl
  unfold f_X4_begin at hf
  refine lv_aload_n hx hb dX4_begin_0 rfl (lv_at hl 0 rfl) ?_
  refine lv_iload_n hx hb dX4_begin_1 rfl (lv_at hl 1 rfl) ?_
  refine x_putI C hw fa_X4_9 ta0 dX4_begin_2 (fun m101 H locs em101 hw => ?_)
  have hf := nm_el hf em101
  refine lv_aload_n hx hb dX4_begin_5 rfl (lv_at hl 0 rfl) ?_
  refine lv_iconst hx hb dX4_begin_6 ki_0 ?_
  refine lv_aload_n hx hb dX4_begin_7 rfl (lv_at hl 0 rfl) ?_
  obtain ⟨b102, eb102, hf⟩ := fo_el hf
  refine x_getR C hw fa_X4_18 (Or.inr ⟨_, rfl⟩) ta0 eb102 dX4_begin_8 (fun tb102 => ?_)
  have tb102 : ∃ n, (mT m0) b102 = some (.inr (2, n)) := tb102
  refine x_alen (ek := 2) C hw rfl tb102 dX4_begin_11 ?_
  refine lv_iload_n hx hb dX4_begin_12 rfl (lv_at hl 2 rfl) ?_
  refine x_mmin C hl.1 km_X4_22 (by decide) (Nat.le_of_ble_eq_true rfl) (by decide) (Nat.zero_le _) (Nat.zero_le _) dX4_begin_13 ?_
  refine lv_topi (fun x103 ex103 => ?_)
  have hf := nm_el hf ex103
  refine x_mmax C hl.1 km_X4_28 (by decide) (Nat.le_of_ble_eq_true rfl) (by decide) (Nat.zero_le _) (Nat.zero_le _) dX4_begin_16 ?_
  refine lv_topi (fun x104 ex104 => ?_)
  have hf := nm_el hf ex104
  refine x_putI C hw fa_X4_15 ta0 dX4_begin_19 (fun m105 H locs em105 hw => ?_)
  have hf := nm_el hf em105
  refine lv_iconst hx hb dX4_begin_22 ki_0 ?_
  refine lv_istore_n (lv' := [(3, .int 0), (0, .ref a0), (1, .int x1), (2, .int x2)]) hx hb dX4_begin_23 rfl hl (by decide) rfl (fun ls hl => ?_)
  refine w_X4_begin_h24 C hr hk hnm ta0 ?_ 2000 _ _ _ _ _ (lv_sub hl [1, 0] rfl) hw hf
  intro m106 H locs ls hl hw hf
  exact x_ret C hr hk hw  hf (by decide) (by decide) dX4_begin_46
set_option maxHeartbeats 4000000 in
set_option maxRecDepth 100000 in
theorem k_X4_has {l : Launch} {D : va_G} {E : Nat → ClassId} {tU : Nat} {τ : Nat → Option XTy} {a0 : Nat} {x1 : Int32} {x2 : Int32} {m0 mE : XMem} {rE : Int32} (hm : mT m0 = τ) (ta0 : τ a0 = some (.inl 4)) (hf : f_X4_has a0 x1 x2 m0 = some (rE, mE)) : Ct l yX4_has cX4_has 3 ((Option.some FieldType.boolean)) 1 0 0 D E tU [.ref a0, .int x1, .int x2] m0 (some (.int rE)) mE (mT mE = mT m0 ∧ (rE = 0 ∨ rE = 1)) := by
  subst hm
  refine Ct.of (by decide) (Nat.le_of_ble_eq_true rfl) (fun p e s m below meth c ls C hr hk hnm hl hw => ?_)
  have hx := C.1
  have hb := C.2.1
  have hl : lv_has ls 3 [(0, .ref a0), (1, .int x1), (2, .int x2)] := hl
  unfold f_X4_has at hf
  refine lv_iload_n hx hb dX4_has_0 rfl (lv_at hl 1 rfl) ?_
  refine lv_if_lt (tgt := 26) hx hb dX4_has_1 (by decide) (fun c => ?_) (fun c => ?_)
  · have hf := ifp hf c
    refine lv_iconst hx hb dX4_has_26 ki_0 ?_
    exact x_retZ C hr hk (Or.inl rfl) hw  hf (by decide) (by decide) dX4_has_27
  · have hf := ifn hf c
    refine lv_iload_n hx hb dX4_has_4 rfl (lv_at hl 2 rfl) ?_
    refine lv_if_lt (tgt := 26) hx hb dX4_has_5 (by decide) (fun c => ?_) (fun c => ?_)
    · have hf := ifp hf c
      refine lv_iconst hx hb dX4_has_26 ki_0 ?_
      exact x_retZ C hr hk (Or.inl rfl) hw  hf (by decide) (by decide) dX4_has_27
    · have hf := ifn hf c
      refine lv_iload_n hx hb dX4_has_8 rfl (lv_at hl 1 rfl) ?_
      refine lv_i2l (v := (Int32.toInt64 x1)) hx hb dX4_has_9 rfl ?_
      refine lv_iload_n hx hb dX4_has_10 rfl (lv_at hl 2 rfl) ?_
      refine lv_i2l (v := (Int32.toInt64 x2)) hx hb dX4_has_11 rfl ?_
      refine lv_ladd hx hb dX4_has_12 ?_
      refine lv_aload_n hx hb dX4_has_13 rfl (lv_at hl 0 rfl) ?_
      refine x_getI C hw fa_X4_15 ta0 dX4_has_14 ?_
      refine lv_i2l (v := (Int32.toInt64 (mI m0 a0 1))) hx hb dX4_has_17 rfl ?_
      refine W.lcmp hx hb dX4_has_18 ?_
      refine lv_if_gt (tgt := 26) hx hb dX4_has_19 (by decide) (fun c => ?_) (fun c => ?_)
      · have hf := ifp hf c
        refine lv_iconst hx hb dX4_has_26 ki_0 ?_
        exact x_retZ C hr hk (Or.inl rfl) hw  hf (by decide) (by decide) dX4_has_27
      · have hf := ifn hf c
        refine lv_iconst hx hb dX4_has_22 ki_1 ?_
        refine lv_goto (tgt := 27) hx hb dX4_has_23 (by decide) ?_
        exact x_retZ C hr hk (Or.inr rfl) hw  hf (by decide) (by decide) dX4_has_27
set_option maxHeartbeats 4000000 in
set_option maxRecDepth 100000 in
theorem k_X4_init {l : Launch} {D : va_G} {E : Nat → ClassId} {tU : Nat} {τ : Nat → Option XTy} {a0 : Nat} {m0 mE : XMem} (hm : mT m0 = τ) (ta0 : τ a0 = some (.inl 4)) (hf : f_X4_init a0 m0 = some mE) : Ct l yX4_init cX4_init 1 ((Option.none : Option FieldType)) 1 1 40 D E tU [.ref a0] m0 (none) mE (XA m0 mE ∧ True) := by
  subst hm
  refine Ct.of (by decide) (Nat.le_of_ble_eq_true rfl) (fun p e s m below meth c ls C hr hk hnm hl hw => ?_)
  have hx := C.1
  have hb := C.2.1
  have hl : lv_has ls 1 [(0, .ref a0)] := hl
  unfold f_X4_init at hf
  have hmo : ∀ q u, mT m0 q = some u → mT m0 q = some u := fun _ _ h => h
  refine lv_aload_n hx hb dX4_init_0 rfl (lv_at hl 0 rfl) ?_
  refine x_obj C hl.1 ko_X4_3 ko_i ko_c (by decide) (Nat.le_of_ble_eq_true rfl) (by decide) dX4_init_1 ?_
  refine lv_aload_n hx hb dX4_init_4 rfl (lv_at hl 0 rfl) ?_
  refine lv_iconst hx hb dX4_init_5 ki_0 ?_
  refine x_putI C hw fa_X4_9 ta0 dX4_init_6 (fun m101 H locs em101 hw => ?_)
  have hf := nm_el hf em101
  refine lv_aload_n hx hb dX4_init_9 rfl (lv_at hl 0 rfl) ?_
  refine lv_iconst hx hb dX4_init_10 ki_0 ?_
  refine x_putI C hw fa_X4_15 ta0 dX4_init_11 (fun m102 H locs em102 hw => ?_)
  have hf := nm_el hf em102
  refine lv_aload_n hx hb dX4_init_14 rfl (lv_at hl 0 rfl) ?_
  refine lv_bipush hx hb dX4_init_15 kb_40 ?_
  refine x_newL (N := 40) C hw (by decide) (by decide) (by decide) (by decide) (by decide) dX4_init_17 (fun b103 m104 H Tm104 eb103 em104 hw tb103 mom104 => ?_)
  have hf := nm_el hf eb103
  have hf := nm_el hf em104
  have tb103 : ∃ n, Tm104 b103 = some (.inr (2, n)) := ⟨_, tb103⟩
  have ta0 := mom104 _ _ ta0
  have hmo := fun q u h => mom104 q u (hmo q u h)
  refine x_putFR C hnm hw fa_X4_18 (Or.inr ⟨_, rfl⟩) rfl ta0 tb103 dX4_init_19 (fun m105 H locs em105 hw => ?_)
  have hf := nm_el hf em105
  exact x_retN C hr hk hw hmo hf (by decide) (by decide) dX4_init_22
set_option maxHeartbeats 4000000 in
set_option maxRecDepth 100000 in
theorem k_X4_lowest {l : Launch} {D : va_G} {E : Nat → ClassId} {tU : Nat} {τ : Nat → Option XTy} {a0 : Nat} {l1 : Int64} {m0 mE : XMem} {rE : Int64} (hm : mT m0 = τ) (ta0 : τ a0 = some (.inl 4)) (hf : f_X4_lowest a0 l1 m0 = some (rE, mE)) : Ct l yX4_lowest cX4_lowest 3 ((Option.some FieldType.long)) 1 0 0 D E tU [.ref a0, .long l1] m0 (some (.long rE)) mE (mT mE = mT m0 ∧ True) := by
  subst hm
  refine Ct.of (by decide) (Nat.le_of_ble_eq_true rfl) (fun p e s m below meth c ls C hr hk hnm hl hw => ?_)
  have hx := C.1
  have hb := C.2.1
  have hl : lv_has ls 3 [(0, .ref a0), (1, .long l1)] := hl
  unfold f_X4_lowest at hf
  refine lv_aload_n hx hb dX4_lowest_0 rfl (lv_at hl 0 rfl) ?_
  refine x_getI C hw fa_X4_9 ta0 dX4_lowest_1 ?_
  by_cases c101 : (mI m0 a0 0) = 8
  · have hf := ifp hf c101
    refine lv_lookup (off := 28) (tgt := 32) hx hb dX4_lowest_4 (by decide) (by rw [c101]; try rfl) (by decide) ?_
    refine lv_lload_n hx hb dX4_lowest_32 rfl (lv_at hl 1 rfl) ?_
    refine lv_l2i (v := (Int64.toInt32 l1)) hx hb dX4_lowest_33 rfl ?_
    refine lv_i2b (v := (Int8.toInt32 (Int32.toInt8 (Int64.toInt32 l1)))) hx hb dX4_lowest_34 rfl ?_
    refine lv_i2l (v := (Int32.toInt64 (Int8.toInt32 (Int32.toInt8 (Int64.toInt32 l1))))) hx hb dX4_lowest_35 rfl ?_
    exact x_retL C hr hk hw  hf (by decide) (by decide) dX4_lowest_36
  · have hf := ifn hf c101
    by_cases c102 : (mI m0 a0 0) = 16
    · have hf := ifp hf c102
      refine lv_lookup (off := 33) (tgt := 37) hx hb dX4_lowest_4 (by decide) (by rw [c102]; try rfl) (by decide) ?_
      refine lv_lload_n hx hb dX4_lowest_37 rfl (lv_at hl 1 rfl) ?_
      refine lv_l2i (v := (Int64.toInt32 l1)) hx hb dX4_lowest_38 rfl ?_
      refine lv_i2s (v := (Int16.toInt32 (Int32.toInt16 (Int64.toInt32 l1)))) hx hb dX4_lowest_39 rfl ?_
      refine lv_i2l (v := (Int32.toInt64 (Int16.toInt32 (Int32.toInt16 (Int64.toInt32 l1))))) hx hb dX4_lowest_40 rfl ?_
      exact x_retL C hr hk hw  hf (by decide) (by decide) dX4_lowest_41
    · have hf := ifn hf c102
      refine lv_lookup (off := 38) (tgt := 42) hx hb dX4_lowest_4 (by decide) (by
          show Op.lookupswitch.offset [(8, 28), (16, 33)] 38 _ = _
          rw [lv_osw c101 (by decide), lv_osw c102 (by decide)]
          try rfl) (by decide) ?_
      refine lv_lload_n hx hb dX4_lowest_42 rfl (lv_at hl 1 rfl) ?_
      exact x_retL C hr hk hw  hf (by decide) (by decide) dX4_lowest_43
set_option maxHeartbeats 4000000 in
set_option maxRecDepth 100000 in
theorem k_X4_numberAt {l : Launch} {D : va_G} {E : Nat → ClassId} {tU : Nat} {τ : Nat → Option XTy} {a0 : Nat} {x1 : Int32} {m0 mE : XMem} {rE : Int64} (hm : mT m0 = τ) (ta0 : τ a0 = some (.inl 4)) (hf : f_X4_numberAt a0 x1 m0 = some (rE, mE)) : Ct l yX4_numberAt cX4_numberAt 2 ((Option.some FieldType.long)) 1 0 0 D E tU [.ref a0, .int x1] m0 (some (.long rE)) mE (mT mE = mT m0 ∧ True) := by
  subst hm
  refine Ct.of (by decide) (Nat.le_of_ble_eq_true rfl) (fun p e s m below meth c ls C hr hk hnm hl hw => ?_)
  have hx := C.1
  have hb := C.2.1
  have hl : lv_has ls 2 [(0, .ref a0), (1, .int x1)] := hl
  unfold f_X4_numberAt at hf
  refine lv_iload_n hx hb dX4_numberAt_0 rfl (lv_at hl 1 rfl) ?_
  refine lv_if_lt (tgt := 21) hx hb dX4_numberAt_1 (by decide) (fun c => ?_) (fun c => ?_)
  · have hf := ifp hf c
    refine lv_lconst hx hb dX4_numberAt_21 kl_0 ?_
    refine lv_goto (tgt := 31) hx hb dX4_numberAt_22 (by decide) ?_
    exact x_retL C hr hk hw  hf (by decide) (by decide) dX4_numberAt_31
  · have hf := ifn hf c
    refine lv_iload_n hx hb dX4_numberAt_4 rfl (lv_at hl 1 rfl) ?_
    refine lv_aload_n hx hb dX4_numberAt_5 rfl (lv_at hl 0 rfl) ?_
    refine x_getI C hw fa_X4_15 ta0 dX4_numberAt_6 ?_
    refine lv_icmp_ge (tgt := 21) hx hb dX4_numberAt_9 (by decide) (fun c => ?_) (fun c => ?_)
    · have hf := ifp hf c
      refine lv_lconst hx hb dX4_numberAt_21 kl_0 ?_
      refine lv_goto (tgt := 31) hx hb dX4_numberAt_22 (by decide) ?_
      exact x_retL C hr hk hw  hf (by decide) (by decide) dX4_numberAt_31
    · have hf := ifn hf c
      refine lv_iload_n hx hb dX4_numberAt_12 rfl (lv_at hl 1 rfl) ?_
      refine lv_aload_n hx hb dX4_numberAt_13 rfl (lv_at hl 0 rfl) ?_
      obtain ⟨b101, eb101, hf⟩ := fo_el hf
      refine x_getR C hw fa_X4_18 (Or.inr ⟨_, rfl⟩) ta0 eb101 dX4_numberAt_14 (fun tb101 => ?_)
      have tb101 : ∃ n, (mT m0) b101 = some (.inr (2, n)) := tb101
      refine x_alen (ek := 2) C hw rfl tb101 dX4_numberAt_17 ?_
      refine lv_icmp_lt (tgt := 25) hx hb dX4_numberAt_18 (by decide) (fun c => ?_) (fun c => ?_)
      · have hf := ifp hf c
        refine lv_aload_n hx hb dX4_numberAt_25 rfl (lv_at hl 0 rfl) ?_
        obtain ⟨b102, eb102, hf⟩ := fo_el hf
        refine x_getR C hw fa_X4_18 (Or.inr ⟨_, rfl⟩) ta0 eb102 dX4_numberAt_26 (fun tb102 => ?_)
        have tb102 : ∃ n, (mT m0) b102 = some (.inr (2, n)) := tb102
        refine lv_iload_n hx hb dX4_numberAt_29 rfl (lv_at hl 1 rfl) ?_
        obtain ⟨g103, hf⟩ := gd_el hf
        refine x_lald C hw tb102 g103 dX4_numberAt_30 ?_
        exact x_retL C hr hk hw  hf (by decide) (by decide) dX4_numberAt_31
      · have hf := ifn hf c
        refine lv_lconst hx hb dX4_numberAt_21 kl_0 ?_
        refine lv_goto (tgt := 31) hx hb dX4_numberAt_22 (by decide) ?_
        exact x_retL C hr hk hw  hf (by decide) (by decide) dX4_numberAt_31
set_option maxHeartbeats 4000000 in
set_option maxRecDepth 100000 in
theorem k_X4_put {l : Launch} {D : va_G} {E : Nat → ClassId} {tU : Nat} {τ : Nat → Option XTy} {a0 : Nat} {x1 : Int32} {l2 : Int64} {m0 mE : XMem} (hm : mT m0 = τ) (ta0 : τ a0 = some (.inl 4)) (hf : f_X4_put a0 x1 l2 m0 = some mE) : Ct l yX4_put cX4_put 4 ((Option.none : Option FieldType)) 2 0 0 D E tU [.ref a0, .int x1, .long l2] m0 (none) mE (mT mE = mT m0 ∧ True) := by
  subst hm
  refine Ct.of (by decide) (Nat.le_of_ble_eq_true rfl) (fun p e s m below meth c ls C hr hk hnm hl hw => ?_)
  have hx := C.1
  have hb := C.2.1
  have hl : lv_has ls 4 [(0, .ref a0), (1, .int x1), (2, .long l2)] := hl
  unfold f_X4_put at hf
  refine lv_iload_n hx hb dX4_put_0 rfl (lv_at hl 1 rfl) ?_
  refine lv_if_lt (tgt := 32) hx hb dX4_put_1 (by decide) (fun c => ?_) (fun c => ?_)
  · have hf := ifp hf c
    exact x_ret C hr hk hw  hf (by decide) (by decide) dX4_put_32
  · have hf := ifn hf c
    refine lv_iload_n hx hb dX4_put_4 rfl (lv_at hl 1 rfl) ?_
    refine lv_aload_n hx hb dX4_put_5 rfl (lv_at hl 0 rfl) ?_
    refine x_getI C hw fa_X4_15 ta0 dX4_put_6 ?_
    refine lv_icmp_ge (tgt := 32) hx hb dX4_put_9 (by decide) (fun c => ?_) (fun c => ?_)
    · have hf := ifp hf c
      exact x_ret C hr hk hw  hf (by decide) (by decide) dX4_put_32
    · have hf := ifn hf c
      refine lv_iload_n hx hb dX4_put_12 rfl (lv_at hl 1 rfl) ?_
      refine lv_aload_n hx hb dX4_put_13 rfl (lv_at hl 0 rfl) ?_
      obtain ⟨b101, eb101, hf⟩ := fo_el hf
      refine x_getR C hw fa_X4_18 (Or.inr ⟨_, rfl⟩) ta0 eb101 dX4_put_14 (fun tb101 => ?_)
      have tb101 : ∃ n, (mT m0) b101 = some (.inr (2, n)) := tb101
      refine x_alen (ek := 2) C hw rfl tb101 dX4_put_17 ?_
      refine lv_icmp_ge (tgt := 32) hx hb dX4_put_18 (by decide) (fun c => ?_) (fun c => ?_)
      · have hf := ifp hf c
        exact x_ret C hr hk hw  hf (by decide) (by decide) dX4_put_32
      · have hf := ifn hf c
        refine lv_aload_n hx hb dX4_put_21 rfl (lv_at hl 0 rfl) ?_
        obtain ⟨b102, eb102, hf⟩ := fo_el hf
        refine x_getR C hw fa_X4_18 (Or.inr ⟨_, rfl⟩) ta0 eb102 dX4_put_22 (fun tb102 => ?_)
        have tb102 : ∃ n, (mT m0) b102 = some (.inr (2, n)) := tb102
        refine lv_iload_n hx hb dX4_put_25 rfl (lv_at hl 1 rfl) ?_
        refine lv_aload_n hx hb dX4_put_26 rfl (lv_at hl 0 rfl) ?_
        refine lv_lload_n hx hb dX4_put_27 rfl (lv_at hl 2 rfl) ?_
        obtain ⟨l104, m103, cm103, hf⟩ := b2_el (o := f_X4_lowest a0 l2 m0) hf
        refine x_callVl (As := [.long l2]) (rest := [.int x1, .ref b102]) C hl.1 hw cb_X4_31 cv_X4_lowest (k_X4_lowest hw.2.2.2.2 ta0 cm103) ta0 rfl rfl (by decide) ⟨Nat.le_refl _, Nat.le_refl _⟩ rfl (Nat.le_of_ble_eq_true rfl) dX4_put_28 (fun H locs hw tl104 => ?_)
        obtain ⟨g105, hf⟩ := gd_el hf
        refine x_last C hw tb102 g105 dX4_put_31 (fun m106 H locs em106 hw => ?_)
        have hf := nm_el hf em106
        exact x_ret C hr hk hw  hf (by decide) (by decide) dX4_put_32
set_option maxHeartbeats 4000000 in
set_option maxRecDepth 100000 in
theorem k_X5_add {l : Launch} {D : va_G} {E : Nat → ClassId} {tU : Nat} {τ : Nat → Option XTy} {a0 : Nat} {x1 : Int32} {m0 mE : XMem} (hm : mT m0 = τ) (ta0 : τ a0 = some (.inl 5)) (hf : f_X5_add a0 x1 m0 = some mE) : Ct l yX5_add cX5_add 2 ((Option.none : Option FieldType)) 1 0 0 D E tU [.ref a0, .int x1] m0 (none) mE (mT mE = mT m0 ∧ True) := by
  subst hm
  refine Ct.of (by decide) (Nat.le_of_ble_eq_true rfl) (fun p e s m below meth c ls C hr hk hnm hl hw => ?_)
  have hx := C.1
  have hb := C.2.1
  have hl : lv_has ls 2 [(0, .ref a0), (1, .int x1)] := hl
  unfold f_X5_add at hf
  refine lv_aload_n hx hb dX5_add_0 rfl (lv_at hl 0 rfl) ?_
  refine x_getI C hw fa_X5_15 ta0 dX5_add_1 ?_
  refine lv_if_lt (tgt := 40) hx hb dX5_add_4 (by decide) (fun c => ?_) (fun c => ?_)
  · have hf := ifp hf c
    exact x_ret C hr hk hw  hf (by decide) (by decide) dX5_add_40
  · have hf := ifn hf c
    refine lv_aload_n hx hb dX5_add_7 rfl (lv_at hl 0 rfl) ?_
    refine x_getI C hw fa_X5_15 ta0 dX5_add_8 ?_
    refine lv_aload_n hx hb dX5_add_11 rfl (lv_at hl 0 rfl) ?_
    obtain ⟨b101, eb101, hf⟩ := fo_el hf
    refine x_getR C hw fa_X5_9 (Or.inr ⟨_, rfl⟩) ta0 eb101 dX5_add_12 (fun tb101 => ?_)
    have tb101 : ∃ n, (mT m0) b101 = some (.inr (1, n)) := tb101
    refine x_alen (ek := 1) C hw rfl tb101 dX5_add_15 ?_
    refine lv_icmp_ge (tgt := 40) hx hb dX5_add_16 (by decide) (fun c => ?_) (fun c => ?_)
    · have hf := ifp hf c
      exact x_ret C hr hk hw  hf (by decide) (by decide) dX5_add_40
    · have hf := ifn hf c
      refine lv_aload_n hx hb dX5_add_19 rfl (lv_at hl 0 rfl) ?_
      obtain ⟨b102, eb102, hf⟩ := fo_el hf
      refine x_getR C hw fa_X5_9 (Or.inr ⟨_, rfl⟩) ta0 eb102 dX5_add_20 (fun tb102 => ?_)
      have tb102 : ∃ n, (mT m0) b102 = some (.inr (1, n)) := tb102
      refine lv_aload_n hx hb dX5_add_23 rfl (lv_at hl 0 rfl) ?_
      refine x_getI C hw fa_X5_15 ta0 dX5_add_24 ?_
      refine lv_iload_n hx hb dX5_add_27 rfl (lv_at hl 1 rfl) ?_
      refine lv_i2b (v := (Int8.toInt32 (Int32.toInt8 x1))) hx hb dX5_add_28 rfl ?_
      obtain ⟨g103, hf⟩ := gd_el hf
      refine x_bast C hw tb102 g103 dX5_add_29 (fun m104 H locs em104 hw => ?_)
      have hf := nm_el hf em104
      refine lv_aload_n hx hb dX5_add_30 rfl (lv_at hl 0 rfl) ?_
      refine lv_dup hx hb dX5_add_31 rfl ?_
      refine x_getI C hw fa_X5_15 ta0 dX5_add_32 ?_
      refine lv_iconst hx hb dX5_add_35 ki_1 ?_
      refine lv_iadd hx hb dX5_add_36 ?_
      refine x_putI C hw fa_X5_15 ta0 dX5_add_37 (fun m105 H locs em105 hw => ?_)
      have hf := nm_el hf em105
      exact x_ret C hr hk hw  hf (by decide) (by decide) dX5_add_40
set_option maxHeartbeats 4000000 in
set_option maxRecDepth 100000 in
theorem k_X5_init {l : Launch} {D : va_G} {E : Nat → ClassId} {tU : Nat} {τ : Nat → Option XTy} {a0 : Nat} {m0 mE : XMem} (hm : mT m0 = τ) (ta0 : τ a0 = some (.inl 5)) (hf : f_X5_init a0 m0 = some mE) : Ct l yX5_init cX5_init 1 ((Option.none : Option FieldType)) 1 1 100 D E tU [.ref a0] m0 (none) mE (XA m0 mE ∧ True) := by
  subst hm
  refine Ct.of (by decide) (Nat.le_of_ble_eq_true rfl) (fun p e s m below meth c ls C hr hk hnm hl hw => ?_)
  have hx := C.1
  have hb := C.2.1
  have hl : lv_has ls 1 [(0, .ref a0)] := hl
  unfold f_X5_init at hf
  have hmo : ∀ q u, mT m0 q = some u → mT m0 q = some u := fun _ _ h => h
  refine lv_aload_n hx hb dX5_init_0 rfl (lv_at hl 0 rfl) ?_
  refine x_obj C hl.1 ko_X5_3 ko_i ko_c (by decide) (Nat.le_of_ble_eq_true rfl) (by decide) dX5_init_1 ?_
  refine lv_aload_n hx hb dX5_init_4 rfl (lv_at hl 0 rfl) ?_
  refine lv_bipush hx hb dX5_init_5 kb_100 ?_
  refine x_newB (N := 100) C hw (by decide) (by decide) (by decide) (by decide) (by decide) dX5_init_7 (fun b101 m102 H Tm102 eb101 em102 hw tb101 mom102 => ?_)
  have hf := nm_el hf eb101
  have hf := nm_el hf em102
  have tb101 : ∃ n, Tm102 b101 = some (.inr (1, n)) := ⟨_, tb101⟩
  have ta0 := mom102 _ _ ta0
  have hmo := fun q u h => mom102 q u (hmo q u h)
  refine x_putFR C hnm hw fa_X5_9 (Or.inr ⟨_, rfl⟩) rfl ta0 tb101 dX5_init_9 (fun m103 H locs em103 hw => ?_)
  have hf := nm_el hf em103
  refine lv_aload_n hx hb dX5_init_12 rfl (lv_at hl 0 rfl) ?_
  refine lv_iconst hx hb dX5_init_13 ki_0 ?_
  refine x_putI C hw fa_X5_15 ta0 dX5_init_14 (fun m104 H locs em104 hw => ?_)
  have hf := nm_el hf em104
  exact x_retN C hr hk hw hmo hf (by decide) (by decide) dX5_init_17
set_option maxHeartbeats 4000000 in
set_option maxRecDepth 100000 in
theorem k_X7_init {l : Launch} {D : va_G} {E : Nat → ClassId} {tU : Nat} {τ : Nat → Option XTy} {a0 : Nat} {m0 mE : XMem} (hm : mT m0 = τ) (ta0 : τ a0 = some (.inl 7)) (hf : f_X7_init a0 m0 = some mE) : Ct l yX7_init cX7_init 1 ((Option.none : Option FieldType)) 1 1 13 D E tU [.ref a0] m0 (none) mE (XA m0 mE ∧ True) := by
  subst hm
  refine Ct.of (by decide) (Nat.le_of_ble_eq_true rfl) (fun p e s m below meth c ls C hr hk hnm hl hw => ?_)
  have hx := C.1
  have hb := C.2.1
  have hl : lv_has ls 1 [(0, .ref a0)] := hl
  unfold f_X7_init at hf
  have hmo : ∀ q u, mT m0 q = some u → mT m0 q = some u := fun _ _ h => h
  refine lv_aload_n hx hb dX7_init_0 rfl (lv_at hl 0 rfl) ?_
  refine x_obj C hl.1 ko_X7_3 ko_i ko_c (by decide) (Nat.le_of_ble_eq_true rfl) (by decide) dX7_init_1 ?_
  refine lv_aload_n hx hb dX7_init_4 rfl (lv_at hl 0 rfl) ?_
  refine lv_iconst hx hb dX7_init_5 ki_0 ?_
  refine x_putI C hw fa_X7_9 ta0 dX7_init_6 (fun m101 H locs em101 hw => ?_)
  have hf := nm_el hf em101
  refine lv_aload_n hx hb dX7_init_9 rfl (lv_at hl 0 rfl) ?_
  refine lv_iconst hx hb dX7_init_10 ki_0 ?_
  refine x_putI C hw fa_X7_15 ta0 dX7_init_11 (fun m102 H locs em102 hw => ?_)
  have hf := nm_el hf em102
  refine lv_aload_n hx hb dX7_init_14 rfl (lv_at hl 0 rfl) ?_
  refine lv_iconst hx hb dX7_init_15 ki_0 ?_
  refine x_putI C hw fa_X7_18 ta0 dX7_init_16 (fun m103 H locs em103 hw => ?_)
  have hf := nm_el hf em103
  refine lv_aload_n hx hb dX7_init_19 rfl (lv_at hl 0 rfl) ?_
  refine lv_iconst hx hb dX7_init_20 ki_0 ?_
  refine x_putI C hw fa_X7_21 ta0 dX7_init_21 (fun m104 H locs em104 hw => ?_)
  have hf := nm_el hf em104
  refine lv_aload_n hx hb dX7_init_24 rfl (lv_at hl 0 rfl) ?_
  refine lv_iconst hx hb dX7_init_25 ki_0 ?_
  refine x_putI C hw fa_X7_24 ta0 dX7_init_26 (fun m105 H locs em105 hw => ?_)
  have hf := nm_el hf em105
  refine lv_aload_n hx hb dX7_init_29 rfl (lv_at hl 0 rfl) ?_
  refine lv_bipush hx hb dX7_init_30 kb_13 ?_
  refine x_newI (N := 13) C hw (by decide) (by decide) (by decide) (by decide) (by decide) dX7_init_32 (fun b106 m107 H Tm107 eb106 em107 hw tb106 mom107 => ?_)
  have hf := nm_el hf eb106
  have hf := nm_el hf em107
  have tb106 : ∃ n, Tm107 b106 = some (.inr (0, n)) := ⟨_, tb106⟩
  have ta0 := mom107 _ _ ta0
  have hmo := fun q u h => mom107 q u (hmo q u h)
  refine x_putFR C hnm hw fa_X7_27 (Or.inr ⟨_, rfl⟩) rfl ta0 tb106 dX7_init_34 (fun m108 H locs em108 hw => ?_)
  have hf := nm_el hf em108
  refine lv_aload_n hx hb dX7_init_37 rfl (lv_at hl 0 rfl) ?_
  refine lv_iconst hx hb dX7_init_38 ki_0 ?_
  refine x_putI C hw fa_X7_31 ta0 dX7_init_39 (fun m109 H locs em109 hw => ?_)
  have hf := nm_el hf em109
  exact x_retN C hr hk hw hmo hf (by decide) (by decide) dX7_init_42
set_option maxHeartbeats 4000000 in
set_option maxRecDepth 100000 in
theorem k_X7_pop {l : Launch} {D : va_G} {E : Nat → ClassId} {tU : Nat} {τ : Nat → Option XTy} {a0 : Nat} {m0 mE : XMem} {rE : Int32} (hm : mT m0 = τ) (ta0 : τ a0 = some (.inl 7)) (hf : f_X7_pop a0 m0 = some (rE, mE)) : Ct l yX7_pop cX7_pop 1 ((Option.some FieldType.int)) 1 0 0 D E tU [.ref a0] m0 (some (.int rE)) mE (mT mE = mT m0 ∧ True) := by
  subst hm
  refine Ct.of (by decide) (Nat.le_of_ble_eq_true rfl) (fun p e s m below meth c ls C hr hk hnm hl hw => ?_)
  have hx := C.1
  have hb := C.2.1
  have hl : lv_has ls 1 [(0, .ref a0)] := hl
  unfold f_X7_pop at hf
  refine lv_aload_n hx hb dX7_pop_0 rfl (lv_at hl 0 rfl) ?_
  refine x_getI C hw fa_X7_31 ta0 dX7_pop_1 ?_
  refine lv_iconst hx hb dX7_pop_4 ki_1 ?_
  refine lv_icmp_lt (tgt := 20) hx hb dX7_pop_5 (by decide) (fun c => ?_) (fun c => ?_)
  · have hf := ifp hf c
    refine lv_iconst hx hb dX7_pop_20 ki_0 ?_
    exact x_retI C hr hk hw  hf (by decide) (by decide) dX7_pop_21
  · have hf := ifn hf c
    refine lv_aload_n hx hb dX7_pop_8 rfl (lv_at hl 0 rfl) ?_
    refine x_getI C hw fa_X7_31 ta0 dX7_pop_9 ?_
    refine lv_aload_n hx hb dX7_pop_12 rfl (lv_at hl 0 rfl) ?_
    obtain ⟨b101, eb101, hf⟩ := fo_el hf
    refine x_getR C hw fa_X7_27 (Or.inr ⟨_, rfl⟩) ta0 eb101 dX7_pop_13 (fun tb101 => ?_)
    have tb101 : ∃ n, (mT m0) b101 = some (.inr (0, n)) := tb101
    refine x_alen (ek := 0) C hw rfl tb101 dX7_pop_16 ?_
    refine lv_icmp_le (tgt := 22) hx hb dX7_pop_17 (by decide) (fun c => ?_) (fun c => ?_)
    · have hf := ifp hf c
      refine lv_aload_n hx hb dX7_pop_22 rfl (lv_at hl 0 rfl) ?_
      refine lv_dup hx hb dX7_pop_23 rfl ?_
      refine x_getI C hw fa_X7_31 ta0 dX7_pop_24 ?_
      refine lv_iconst hx hb dX7_pop_27 ki_1 ?_
      refine lv_isub hx hb dX7_pop_28 ?_
      refine x_putI C hw fa_X7_31 ta0 dX7_pop_29 (fun m102 H locs em102 hw => ?_)
      have hf := nm_el hf em102
      refine lv_aload_n hx hb dX7_pop_32 rfl (lv_at hl 0 rfl) ?_
      obtain ⟨b103, eb103, hf⟩ := fo_el hf
      refine x_getR C hw fa_X7_27 (Or.inr ⟨_, rfl⟩) ta0 eb103 dX7_pop_33 (fun tb103 => ?_)
      have tb103 : ∃ n, (mT m0) b103 = some (.inr (0, n)) := tb103
      refine lv_aload_n hx hb dX7_pop_36 rfl (lv_at hl 0 rfl) ?_
      refine x_getI C hw fa_X7_31 ta0 dX7_pop_37 ?_
      obtain ⟨g104, hf⟩ := gd_el hf
      refine x_iald C hw tb103 g104 dX7_pop_40 ?_
      exact x_retI C hr hk hw  hf (by decide) (by decide) dX7_pop_41
    · have hf := ifn hf c
      refine lv_iconst hx hb dX7_pop_20 ki_0 ?_
      exact x_retI C hr hk hw  hf (by decide) (by decide) dX7_pop_21
set_option maxHeartbeats 4000000 in
set_option maxRecDepth 100000 in
theorem k_X7_push {l : Launch} {D : va_G} {E : Nat → ClassId} {tU : Nat} {τ : Nat → Option XTy} {a0 : Nat} {x1 : Int32} {m0 mE : XMem} (hm : mT m0 = τ) (ta0 : τ a0 = some (.inl 7)) (hf : f_X7_push a0 x1 m0 = some mE) : Ct l yX7_push cX7_push 2 ((Option.none : Option FieldType)) 1 0 0 D E tU [.ref a0, .int x1] m0 (none) mE (mT mE = mT m0 ∧ True) := by
  subst hm
  refine Ct.of (by decide) (Nat.le_of_ble_eq_true rfl) (fun p e s m below meth c ls C hr hk hnm hl hw => ?_)
  have hx := C.1
  have hb := C.2.1
  have hl : lv_has ls 2 [(0, .ref a0), (1, .int x1)] := hl
  unfold f_X7_push at hf
  refine lv_aload_n hx hb dX7_push_0 rfl (lv_at hl 0 rfl) ?_
  refine x_getI C hw fa_X7_31 ta0 dX7_push_1 ?_
  refine lv_if_lt (tgt := 39) hx hb dX7_push_4 (by decide) (fun c => ?_) (fun c => ?_)
  · have hf := ifp hf c
    exact x_ret C hr hk hw  hf (by decide) (by decide) dX7_push_39
  · have hf := ifn hf c
    refine lv_aload_n hx hb dX7_push_7 rfl (lv_at hl 0 rfl) ?_
    refine x_getI C hw fa_X7_31 ta0 dX7_push_8 ?_
    refine lv_aload_n hx hb dX7_push_11 rfl (lv_at hl 0 rfl) ?_
    obtain ⟨b101, eb101, hf⟩ := fo_el hf
    refine x_getR C hw fa_X7_27 (Or.inr ⟨_, rfl⟩) ta0 eb101 dX7_push_12 (fun tb101 => ?_)
    have tb101 : ∃ n, (mT m0) b101 = some (.inr (0, n)) := tb101
    refine x_alen (ek := 0) C hw rfl tb101 dX7_push_15 ?_
    refine lv_icmp_ge (tgt := 39) hx hb dX7_push_16 (by decide) (fun c => ?_) (fun c => ?_)
    · have hf := ifp hf c
      exact x_ret C hr hk hw  hf (by decide) (by decide) dX7_push_39
    · have hf := ifn hf c
      refine lv_aload_n hx hb dX7_push_19 rfl (lv_at hl 0 rfl) ?_
      obtain ⟨b102, eb102, hf⟩ := fo_el hf
      refine x_getR C hw fa_X7_27 (Or.inr ⟨_, rfl⟩) ta0 eb102 dX7_push_20 (fun tb102 => ?_)
      have tb102 : ∃ n, (mT m0) b102 = some (.inr (0, n)) := tb102
      refine lv_aload_n hx hb dX7_push_23 rfl (lv_at hl 0 rfl) ?_
      refine x_getI C hw fa_X7_31 ta0 dX7_push_24 ?_
      refine lv_iload_n hx hb dX7_push_27 rfl (lv_at hl 1 rfl) ?_
      obtain ⟨g103, hf⟩ := gd_el hf
      refine x_iast C hw tb102 g103 dX7_push_28 (fun m104 H locs em104 hw => ?_)
      have hf := nm_el hf em104
      refine lv_aload_n hx hb dX7_push_29 rfl (lv_at hl 0 rfl) ?_
      refine lv_dup hx hb dX7_push_30 rfl ?_
      refine x_getI C hw fa_X7_31 ta0 dX7_push_31 ?_
      refine lv_iconst hx hb dX7_push_34 ki_1 ?_
      refine lv_iadd hx hb dX7_push_35 ?_
      refine x_putI C hw fa_X7_31 ta0 dX7_push_36 (fun m105 H locs em105 hw => ?_)
      have hf := nm_el hf em105
      exact x_ret C hr hk hw  hf (by decide) (by decide) dX7_push_39
set_option maxHeartbeats 4000000 in
set_option maxRecDepth 100000 in
theorem k_X7_resultOf {l : Launch} {D : va_G} {E : Nat → ClassId} {tU : Nat} {τ : Nat → Option XTy} {a0 : Nat} {x1 : Int32} {m0 mE : XMem} {rE : Int32} (hm : mT m0 = τ) (ta0 : τ a0 = some (.inl 7)) (hf : f_X7_resultOf a0 x1 m0 = some (rE, mE)) : Ct l yX7_resultOf cX7_resultOf 4 ((Option.some FieldType.int)) 2 0 0 D E tU [.ref a0, .int x1] m0 (some (.int rE)) mE (mT mE = mT m0 ∧ True) := by
  subst hm
  refine Ct.of (by decide) (Nat.le_of_ble_eq_true rfl) (fun p e s m below meth c ls C hr hk hnm hl hw => ?_)
  have hx := C.1
  have hb := C.2.1
  have hl : lv_has ls 4 [(0, .ref a0), (1, .int x1)] := hl
  unfold f_X7_resultOf at hf
  refine lv_aload_n hx hb dX7_resultOf_0 rfl (lv_at hl 0 rfl) ?_
  obtain ⟨r102, m101, cm101, hf⟩ := b2_el (o := f_X7_pop a0 m0) hf
  refine x_callVi (As := []) (rest := []) C hl.1 hw cb_X7_59 cv_X7_pop (k_X7_pop hw.2.2.2.2 ta0 cm101) ta0 rfl rfl (by decide) ⟨Nat.le_refl _, Nat.le_refl _⟩ rfl (Nat.le_of_ble_eq_true rfl) dX7_resultOf_1 (fun H locs hw tr102 => ?_)
  refine lv_istore_n (lv' := [(2, .int r102), (0, .ref a0), (1, .int x1)]) hx hb dX7_resultOf_4 rfl hl (by decide) rfl (fun ls hl => ?_)
  refine lv_aload_n hx hb dX7_resultOf_5 rfl (lv_at hl 1 rfl) ?_
  obtain ⟨r104, m103, cm103, hf⟩ := b2_el (o := f_X7_pop a0 m101) hf
  refine x_callVi (As := []) (rest := []) C hl.1 hw cb_X7_59 cv_X7_pop (k_X7_pop hw.2.2.2.2 ta0 cm103) ta0 rfl rfl (by decide) ⟨Nat.le_refl _, Nat.le_refl _⟩ rfl (Nat.le_of_ble_eq_true rfl) dX7_resultOf_6 (fun H locs hw tr104 => ?_)
  refine lv_istore_n (lv' := [(3, .int r104), (2, .int r102), (0, .ref a0), (1, .int x1)]) hx hb dX7_resultOf_9 rfl hl (by decide) rfl (fun ls hl => ?_)
  refine lv_iload_n hx hb dX7_resultOf_10 rfl (lv_at hl 3 rfl) ?_
  by_cases c105 : x1 = (-11)
  · have hf := ifp hf c105
    refine lv_tableIn (off := 67) (tgt := 78) hx hb dX7_resultOf_11 (by rw [c105]; decide) (by rw [c105]; decide) (by rw [c105]; try rfl) (by decide) ?_
    refine lv_iload_n hx hb dX7_resultOf_78 rfl (lv_at hl 0 rfl) ?_
    refine lv_iload_n hx hb dX7_resultOf_79 rfl (lv_at hl 1 rfl) ?_
    refine x_mmax C hl.1 km_X7_68 (by decide) (Nat.le_of_ble_eq_true rfl) (by decide) (Nat.zero_le _) (Nat.zero_le _) dX7_resultOf_80 ?_
    refine lv_topi (fun x106 ex106 => ?_)
    have hf := nm_el hf ex106
    exact x_retI C hr hk hw  hf (by decide) (by decide) dX7_resultOf_83
  · have hf := ifn hf c105
    by_cases c107 : x1 = (-10)
    · have hf := ifp hf c107
      refine lv_tableIn (off := 61) (tgt := 72) hx hb dX7_resultOf_11 (by rw [c107]; decide) (by rw [c107]; decide) (by rw [c107]; try rfl) (by decide) ?_
      refine lv_iload_n hx hb dX7_resultOf_72 rfl (lv_at hl 0 rfl) ?_
      refine lv_iload_n hx hb dX7_resultOf_73 rfl (lv_at hl 1 rfl) ?_
      refine x_mmin C hl.1 km_X7_62 (by decide) (Nat.le_of_ble_eq_true rfl) (by decide) (Nat.zero_le _) (Nat.zero_le _) dX7_resultOf_74 ?_
      refine lv_topi (fun x108 ex108 => ?_)
      have hf := nm_el hf ex108
      exact x_retI C hr hk hw  hf (by decide) (by decide) dX7_resultOf_77
    · have hf := ifn hf c107
      by_cases c109 : x1 = (-9)
      · have hf := ifp hf c109
        refine lv_tableIn (off := 49) (tgt := 60) hx hb dX7_resultOf_11 (by rw [c109]; decide) (by rw [c109]; decide) (by rw [c109]; try rfl) (by decide) ?_
        refine lv_iload_n hx hb dX7_resultOf_60 rfl (lv_at hl 1 rfl) ?_
        refine lv_if_ne (tgt := 68) hx hb dX7_resultOf_61 (by decide) (fun c => ?_) (fun c => ?_)
        · have hf := ifn hf c
          refine lv_iload_n hx hb dX7_resultOf_68 rfl (lv_at hl 0 rfl) ?_
          refine lv_iload_n hx hb dX7_resultOf_69 rfl (lv_at hl 1 rfl) ?_
          obtain ⟨g110, hf⟩ := gd_el hf
          refine lv_idiv hx hb dX7_resultOf_70 (nz_ne g110) ?_
          exact x_retI C hr hk hw  hf (by decide) (by decide) dX7_resultOf_71
        · have hf := ifp hf c
          refine lv_iconst hx hb dX7_resultOf_64 ki_0 ?_
          refine lv_goto (tgt := 71) hx hb dX7_resultOf_65 (by decide) ?_
          exact x_retI C hr hk hw  hf (by decide) (by decide) dX7_resultOf_71
      · have hf := ifn hf c109
        by_cases c111 : x1 = (-8)
        · have hf := ifp hf c111
          refine lv_tableIn (off := 45) (tgt := 56) hx hb dX7_resultOf_11 (by rw [c111]; decide) (by rw [c111]; decide) (by rw [c111]; try rfl) (by decide) ?_
          refine lv_iload_n hx hb dX7_resultOf_56 rfl (lv_at hl 0 rfl) ?_
          refine lv_iload_n hx hb dX7_resultOf_57 rfl (lv_at hl 1 rfl) ?_
          refine lv_imul hx hb dX7_resultOf_58 ?_
          exact x_retI C hr hk hw  hf (by decide) (by decide) dX7_resultOf_59
        · have hf := ifn hf c111
          by_cases c112 : x1 = (-7)
          · have hf := ifp hf c112
            refine lv_tableIn (off := 41) (tgt := 52) hx hb dX7_resultOf_11 (by rw [c112]; decide) (by rw [c112]; decide) (by rw [c112]; try rfl) (by decide) ?_
            refine lv_iload_n hx hb dX7_resultOf_52 rfl (lv_at hl 0 rfl) ?_
            refine lv_iload_n hx hb dX7_resultOf_53 rfl (lv_at hl 1 rfl) ?_
            refine lv_isub hx hb dX7_resultOf_54 ?_
            exact x_retI C hr hk hw  hf (by decide) (by decide) dX7_resultOf_55
          · have hf := ifn hf c112
            by_cases c113 : x1 = (-6)
            · have hf := ifp hf c113
              refine lv_tableIn (off := 37) (tgt := 48) hx hb dX7_resultOf_11 (by rw [c113]; decide) (by rw [c113]; decide) (by rw [c113]; try rfl) (by decide) ?_
              refine lv_iload_n hx hb dX7_resultOf_48 rfl (lv_at hl 0 rfl) ?_
              refine lv_iload_n hx hb dX7_resultOf_49 rfl (lv_at hl 1 rfl) ?_
              refine lv_iadd hx hb dX7_resultOf_50 ?_
              exact x_retI C hr hk hw  hf (by decide) (by decide) dX7_resultOf_51
            · have hf := ifn hf c113
              refine lv_tableOut (tgt := 84) hx hb dX7_resultOf_11 (by
                  have hc105 := sw_ne (a := (-11)) c105 (by decide)
                  have hc107 := sw_ne (a := (-10)) c107 (by decide)
                  have hc109 := sw_ne (a := (-9)) c109 (by decide)
                  have hc111 := sw_ne (a := (-8)) c111 (by decide)
                  have hc112 := sw_ne (a := (-7)) c112 (by decide)
                  have hc113 := sw_ne (a := (-6)) c113 (by decide)
                  omega) (by decide) ?_
              refine lv_aload_n hx hb dX7_resultOf_84 rfl (lv_at hl 2 rfl) ?_
              obtain ⟨r115, m114, cm114, hf⟩ := b2_el (o := f_X7_pop a0 m103) hf
              refine x_callVi (As := []) (rest := []) C hl.1 hw cb_X7_59 cv_X7_pop (k_X7_pop hw.2.2.2.2 ta0 cm114) ta0 rfl rfl (by decide) ⟨Nat.le_refl _, Nat.le_refl _⟩ rfl (Nat.le_of_ble_eq_true rfl) dX7_resultOf_85 (fun H locs hw tr115 => ?_)
              refine lv_if_ne (tgt := 95) hx hb dX7_resultOf_88 (by decide) (fun c => ?_) (fun c => ?_)
              · have hf := ifn hf c
                refine lv_iload_n hx hb dX7_resultOf_95 rfl (lv_at hl 0 rfl) ?_
                exact x_retI C hr hk hw  hf (by decide) (by decide) dX7_resultOf_96
              · have hf := ifp hf c
                refine lv_iload_n hx hb dX7_resultOf_91 rfl (lv_at hl 1 rfl) ?_
                refine lv_goto (tgt := 96) hx hb dX7_resultOf_92 (by decide) ?_
                exact x_retI C hr hk hw  hf (by decide) (by decide) dX7_resultOf_96
set_option maxHeartbeats 4000000 in
set_option maxRecDepth 100000 in
theorem k_X7_valueOf {l : Launch} {D : va_G} {E : Nat → ClassId} {tU : Nat} {τ : Nat → Option XTy} {a0 : Nat} {x1 : Int32} {m0 mE : XMem} {rE : Int32} (hm : mT m0 = τ) (ta0 : τ a0 = some (.inl 7)) (hf : f_X7_valueOf a0 x1 m0 = some (rE, mE)) : Ct l yX7_valueOf cX7_valueOf 2 ((Option.some FieldType.int)) 1 0 0 D E tU [.ref a0, .int x1] m0 (some (.int rE)) mE (mT mE = mT m0 ∧ True) := by
  subst hm
  refine Ct.of (by decide) (Nat.le_of_ble_eq_true rfl) (fun p e s m below meth c ls C hr hk hnm hl hw => ?_)
  have hx := C.1
  have hb := C.2.1
  have hl : lv_has ls 2 [(0, .ref a0), (1, .int x1)] := hl
  unfold f_X7_valueOf at hf
  refine lv_iload_n hx hb dX7_valueOf_0 rfl (lv_at hl 1 rfl) ?_
  by_cases c101 : x1 = (-5)
  · have hf := ifp hf c101
    refine lv_tableIn (off := 55) (tgt := 56) hx hb dX7_valueOf_1 (by rw [c101]; decide) (by rw [c101]; decide) (by rw [c101]; try rfl) (by decide) ?_
    refine lv_aload_n hx hb dX7_valueOf_56 rfl (lv_at hl 0 rfl) ?_
    refine x_getI C hw fa_X7_24 ta0 dX7_valueOf_57 ?_
    exact x_retI C hr hk hw  hf (by decide) (by decide) dX7_valueOf_60
  · have hf := ifn hf c101
    by_cases c102 : x1 = (-4)
    · have hf := ifp hf c102
      refine lv_tableIn (off := 50) (tgt := 51) hx hb dX7_valueOf_1 (by rw [c102]; decide) (by rw [c102]; decide) (by rw [c102]; try rfl) (by decide) ?_
      refine lv_aload_n hx hb dX7_valueOf_51 rfl (lv_at hl 0 rfl) ?_
      refine x_getI C hw fa_X7_21 ta0 dX7_valueOf_52 ?_
      exact x_retI C hr hk hw  hf (by decide) (by decide) dX7_valueOf_55
    · have hf := ifn hf c102
      by_cases c103 : x1 = (-3)
      · have hf := ifp hf c103
        refine lv_tableIn (off := 45) (tgt := 46) hx hb dX7_valueOf_1 (by rw [c103]; decide) (by rw [c103]; decide) (by rw [c103]; try rfl) (by decide) ?_
        refine lv_aload_n hx hb dX7_valueOf_46 rfl (lv_at hl 0 rfl) ?_
        refine x_getI C hw fa_X7_18 ta0 dX7_valueOf_47 ?_
        exact x_retI C hr hk hw  hf (by decide) (by decide) dX7_valueOf_50
      · have hf := ifn hf c103
        by_cases c104 : x1 = (-2)
        · have hf := ifp hf c104
          refine lv_tableIn (off := 40) (tgt := 41) hx hb dX7_valueOf_1 (by rw [c104]; decide) (by rw [c104]; decide) (by rw [c104]; try rfl) (by decide) ?_
          refine lv_aload_n hx hb dX7_valueOf_41 rfl (lv_at hl 0 rfl) ?_
          refine x_getI C hw fa_X7_15 ta0 dX7_valueOf_42 ?_
          exact x_retI C hr hk hw  hf (by decide) (by decide) dX7_valueOf_45
        · have hf := ifn hf c104
          by_cases c105 : x1 = (-1)
          · have hf := ifp hf c105
            refine lv_tableIn (off := 35) (tgt := 36) hx hb dX7_valueOf_1 (by rw [c105]; decide) (by rw [c105]; decide) (by rw [c105]; try rfl) (by decide) ?_
            refine lv_aload_n hx hb dX7_valueOf_36 rfl (lv_at hl 0 rfl) ?_
            refine x_getI C hw fa_X7_9 ta0 dX7_valueOf_37 ?_
            exact x_retI C hr hk hw  hf (by decide) (by decide) dX7_valueOf_40
          · have hf := ifn hf c105
            refine lv_tableOut (tgt := 61) hx hb dX7_valueOf_1 (by
                have hc101 := sw_ne (a := (-5)) c101 (by decide)
                have hc102 := sw_ne (a := (-4)) c102 (by decide)
                have hc103 := sw_ne (a := (-3)) c103 (by decide)
                have hc104 := sw_ne (a := (-2)) c104 (by decide)
                have hc105 := sw_ne (a := (-1)) c105 (by decide)
                omega) (by decide) ?_
            refine lv_iload_n hx hb dX7_valueOf_61 rfl (lv_at hl 1 rfl) ?_
            exact x_retI C hr hk hw  hf (by decide) (by decide) dX7_valueOf_62
set_option maxHeartbeats 4000000 in
set_option maxRecDepth 100000 in
theorem w_X7_worked_h47 {p : Program} {l : Launch} {e : Env} {s : State} {m : MethodId} {args : Array Value} {below : List Frame} {meth : Method} {c : Code} {D : va_G} {E : Nat → ClassId} {tU : Nat} {m0 mE : XMem} {rE : Int32} (C : Cx p s m args c cX7_worked 8 RX7 D E (Am m0) tU) (hr : meth.sig.returnType = ((Option.some FieldType.int))) (hk : meth.locks = false) (hnm : meth.name = yX7_worked.name) {a0 : Nat} {a6 : Nat} (ta0 : mT m0 a0 = some (.inl 7)) (ta6 : ∃ n, mT m0 a6 = some (.inr (0, n))) {k96 :  XMem → Option (Int32 × XMem)} (hk96 : ∀  (mu : XMem) (H : Heap) (locs : List Loc) (ls : Array Slot), lv_has ls 8 [(0, .ref a0)] → Wd D E (Am m0) s (mT m0) mu H locs →   k96  mu = some (rE, mE) → W p l e (rmN 3 0 0) s m args below meth c H locs 0 0 (MQ below (XQ D E (Am m0) (some (.int rE)) mE (mT mE = mT m0 ∧ True)) args s 0 0 (Am m0)) (F0 m 96 ls [])) : ∀ (n : Nat) (x7 : Int32) (mu : XMem) (H : Heap) (locs : List Loc) (ls : Array Slot), lv_has ls 8 [(0, .ref a0), (6, .ref a6), (7, .int x7)] → Wd D E (Am m0) s (mT m0) mu H locs → f_X7_worked_h47 a0 a6 k96 n x7 mu = some (rE, mE) → W p l e (rmN 3 0 0) s m args below meth c H locs 0 0 (MQ below (XQ D E (Am m0) (some (.int rE)) mE (mT mE = mT m0 ∧ True)) args s 0 0 (Am m0)) (F0 m 47 ls []) := by
  have hx := C.1
  have hb := C.2.1
  intro n
  induction n with
  | zero =>
    intros
    rename_i hf
    cases hf
  | succ n ih =>
    intro x7 mu H locs ls hl hw hf
    rw [f_X7_worked_h47] at hf
    refine lv_iload hx hb dX7_worked_47 (lv_at hl 2 rfl) ?_
    refine lv_aload hx hb dX7_worked_49 (lv_at hl 1 rfl) ?_
    refine x_alen (ek := 0) C hw rfl ta6 dX7_worked_51 ?_
    refine lv_icmp_ge (tgt := 96) hx hb dX7_worked_52 (by decide) (fun c => ?_) (fun c => ?_)
    · have hf := ifp hf c
      exact hk96 _ _ _ _ (lv_sub hl [0] rfl) hw hf
    · have hf := ifn hf c
      refine lv_aload_n hx hb dX7_worked_55 rfl (lv_at hl 0 rfl) ?_
      refine lv_aload hx hb dX7_worked_56 (lv_at hl 1 rfl) ?_
      refine lv_iload hx hb dX7_worked_58 (lv_at hl 2 rfl) ?_
      obtain ⟨g113, hf⟩ := gd_el hf
      refine x_iald C hw ta6 g113 dX7_worked_60 ?_
      refine lv_bipush hx hb dX7_worked_61 kb_m5 ?_
      refine lv_icmp_lt (tgt := 78) hx hb dX7_worked_63 (by decide) (fun c => ?_) (fun c => ?_)
      · have hf := ifp hf c
        refine lv_aload_n hx hb dX7_worked_78 rfl (lv_at hl 0 rfl) ?_
        refine lv_aload hx hb dX7_worked_79 (lv_at hl 1 rfl) ?_
        refine lv_iload hx hb dX7_worked_81 (lv_at hl 2 rfl) ?_
        obtain ⟨g114, hf⟩ := gd_el hf
        refine x_iald C hw ta6 g114 dX7_worked_83 ?_
        obtain ⟨r116, m115, cm115, hf⟩ := b2_el (o := f_X7_resultOf a0 (mI mu a6 (Int32.toNatClampNeg x7)) mu) hf
        refine x_callVi (As := [.int (mI mu a6 (Int32.toNatClampNeg x7))]) (rest := [.ref a0]) C hl.1 hw cb_X7_52 cv_X7_resultOf (k_X7_resultOf hw.2.2.2.2 ta0 cm115) ta0 rfl rfl (by decide) ⟨Nat.le_refl _, Nat.le_refl _⟩ rfl (Nat.le_of_ble_eq_true rfl) dX7_worked_84 (fun H locs hw tr116 => ?_)
        obtain ⟨m117, cm117, hf⟩ := b1_el (o := f_X7_push a0 r116 m115) hf
        refine x_callVv (As := [.int r116]) (rest := []) C hl.1 hw cb_X7_55 cv_X7_push (k_X7_push hw.2.2.2.2 ta0 cm117) ta0 rfl rfl (by decide) ⟨Nat.le_refl _, Nat.le_refl _⟩ rfl (Nat.le_of_ble_eq_true rfl) dX7_worked_87 (fun H locs hw tm117 => ?_)
        obtain ⟨x118, ex118⟩ : ∃ z : Int32, z = x7 + 1 := ⟨_, rfl⟩
        have hf := nm_el hf ex118
        refine lv_iinc (v := x118) (lv' := [(7, .int x118), (0, .ref a0), (6, .ref a6)]) hx hb dX7_worked_90 hl (k := 2) rfl (by rw [ex118, ki_1]) (by decide) rfl (fun ls hl => ?_)
        refine lv_goto (tgt := 47) hx hb dX7_worked_93 (by decide) ?_
        exact ih _ _ _ _ _ (lv_sub hl [1, 2, 0] rfl) hw hf
      · have hf := ifn hf c
        refine lv_aload_n hx hb dX7_worked_66 rfl (lv_at hl 0 rfl) ?_
        refine lv_aload hx hb dX7_worked_67 (lv_at hl 1 rfl) ?_
        refine lv_iload hx hb dX7_worked_69 (lv_at hl 2 rfl) ?_
        obtain ⟨g119, hf⟩ := gd_el hf
        refine x_iald C hw ta6 g119 dX7_worked_71 ?_
        obtain ⟨r121, m120, cm120, hf⟩ := b2_el (o := f_X7_valueOf a0 (mI mu a6 (Int32.toNatClampNeg x7)) mu) hf
        refine x_callVi (As := [.int (mI mu a6 (Int32.toNatClampNeg x7))]) (rest := [.ref a0]) C hl.1 hw cb_X7_48 cv_X7_valueOf (k_X7_valueOf hw.2.2.2.2 ta0 cm120) ta0 rfl rfl (by decide) ⟨Nat.le_refl _, Nat.le_refl _⟩ rfl (Nat.le_of_ble_eq_true rfl) dX7_worked_72 (fun H locs hw tr121 => ?_)
        refine lv_goto (tgt := 87) hx hb dX7_worked_75 (by decide) ?_
        obtain ⟨m122, cm122, hf⟩ := b1_el (o := f_X7_push a0 r121 m120) hf
        refine x_callVv (As := [.int r121]) (rest := []) C hl.1 hw cb_X7_55 cv_X7_push (k_X7_push hw.2.2.2.2 ta0 cm122) ta0 rfl rfl (by decide) ⟨Nat.le_refl _, Nat.le_refl _⟩ rfl (Nat.le_of_ble_eq_true rfl) dX7_worked_87 (fun H locs hw tm122 => ?_)
        obtain ⟨x123, ex123⟩ : ∃ z : Int32, z = x7 + 1 := ⟨_, rfl⟩
        have hf := nm_el hf ex123
        refine lv_iinc (v := x123) (lv' := [(7, .int x123), (0, .ref a0), (6, .ref a6)]) hx hb dX7_worked_90 hl (k := 2) rfl (by rw [ex123, ki_1]) (by decide) rfl (fun ls hl => ?_)
        refine lv_goto (tgt := 47) hx hb dX7_worked_93 (by decide) ?_
        exact ih _ _ _ _ _ (lv_sub hl [1, 2, 0] rfl) hw hf
set_option maxHeartbeats 4000000 in
set_option maxRecDepth 100000 in
theorem k_X7_worked {l : Launch} {D : va_G} {E : Nat → ClassId} {tU : Nat} {τ : Nat → Option XTy} {a0 : Nat} {a1 : Nat} {a2 : Nat} {x3 : Int32} {x4 : Int32} {x5 : Int32} {m0 mE : XMem} {rE : Int32} (hm : mT m0 = τ) (ta0 : τ a0 = some (.inl 7)) (ta1 : τ a1 = some (.inl 6)) (ta2 : τ a2 = some (.inl 0)) (hf : f_X7_worked a0 a1 a2 x3 x4 x5 m0 = some (rE, mE)) : Ct l yX7_worked cX7_worked 8 ((Option.some FieldType.int)) 3 0 0 D E tU [.ref a0, .ref a1, .ref a2, .int x3, .int x4, .int x5] m0 (some (.int rE)) mE (mT mE = mT m0 ∧ True) := by
  subst hm
  refine Ct.of (by decide) (Nat.le_of_ble_eq_true rfl) (fun p e s m below meth c ls C hr hk hnm hl hw => ?_)
  have hx := C.1
  have hb := C.2.1
  have hl : lv_has ls 8 [(0, .ref a0), (1, .ref a1), (2, .ref a2), (3, .int x3), (4, .int x4), (5, .int x5)] := hl
  unfold f_X7_worked at hf
  refine lv_aload_n hx hb dX7_worked_0 rfl (lv_at hl 0 rfl) ?_
  refine lv_aload_n hx hb dX7_worked_1 rfl (lv_at hl 2 rfl) ?_
  obtain ⟨r102, m101, cm101, hf⟩ := b2_el (o := f_X0_powerThatCounts a2 m0) hf
  refine x_callVi (As := []) (rest := [.ref a0]) C hl.1 hw cb_X7_34 cv_X0_powerThatCounts (k_X0_powerThatCounts hw.2.2.2.2 ta2 cm101) ta2 rfl rfl (by decide) ⟨Nat.le_refl _, Nat.le_refl _⟩ rfl (Nat.le_of_ble_eq_true rfl) dX7_worked_2 (fun H locs hw tr102 => ?_)
  refine x_putI C hw fa_X7_9 ta0 dX7_worked_5 (fun m103 H locs em103 hw => ?_)
  have hf := nm_el hf em103
  refine lv_aload_n hx hb dX7_worked_8 rfl (lv_at hl 0 rfl) ?_
  refine lv_iload_n hx hb dX7_worked_9 rfl (lv_at hl 3 rfl) ?_
  refine x_putI C hw fa_X7_15 ta0 dX7_worked_10 (fun m104 H locs em104 hw => ?_)
  have hf := nm_el hf em104
  refine lv_aload_n hx hb dX7_worked_13 rfl (lv_at hl 0 rfl) ?_
  refine lv_iload hx hb dX7_worked_14 (lv_at hl 4 rfl) ?_
  refine x_putI C hw fa_X7_18 ta0 dX7_worked_16 (fun m105 H locs em105 hw => ?_)
  have hf := nm_el hf em105
  refine lv_aload_n hx hb dX7_worked_19 rfl (lv_at hl 0 rfl) ?_
  refine lv_iload hx hb dX7_worked_20 (lv_at hl 5 rfl) ?_
  refine x_putI C hw fa_X7_21 ta0 dX7_worked_22 (fun m106 H locs em106 hw => ?_)
  have hf := nm_el hf em106
  refine lv_aload_n hx hb dX7_worked_25 rfl (lv_at hl 0 rfl) ?_
  refine lv_aload_n hx hb dX7_worked_26 rfl (lv_at hl 2 rfl) ?_
  refine x_getI C hw fa_X7_40 ta2 dX7_worked_27 ?_
  refine x_putI C hw fa_X7_24 ta0 dX7_worked_30 (fun m107 H locs em107 hw => ?_)
  have hf := nm_el hf em107
  refine lv_aload_n hx hb dX7_worked_33 rfl (lv_at hl 0 rfl) ?_
  refine lv_iconst hx hb dX7_worked_34 ki_0 ?_
  refine x_putI C hw fa_X7_31 ta0 dX7_worked_35 (fun m108 H locs em108 hw => ?_)
  have hf := nm_el hf em108
  refine lv_aload_n hx hb dX7_worked_38 rfl (lv_at hl 1 rfl) ?_
  obtain ⟨b109, eb109, hf⟩ := fo_el hf
  refine x_getR C hw fa_X7_43 (Or.inr ⟨_, rfl⟩) ta1 eb109 dX7_worked_39 (fun tb109 => ?_)
  have tb109 : ∃ n, (mT m0) b109 = some (.inr (0, n)) := tb109
  refine lv_astore (lv' := [(6, .ref b109), (0, .ref a0), (1, .ref a1), (2, .ref a2), (3, .int x3), (4, .int x4), (5, .int x5)]) hx hb dX7_worked_42 hl (by decide) rfl (fun ls hl => ?_)
  refine lv_iconst hx hb dX7_worked_44 ki_0 ?_
  refine lv_istore (lv' := [(7, .int 0), (6, .ref b109), (0, .ref a0), (1, .ref a1), (2, .ref a2), (3, .int x3), (4, .int x4), (5, .int x5)]) hx hb dX7_worked_45 hl (by decide) rfl (fun ls hl => ?_)
  refine w_X7_worked_h47 C hr hk hnm ta0 tb109 ?_ 2000 _ _ _ _ _ (lv_sub hl [2, 1, 0] rfl) hw hf
  intro m110 H locs ls hl hw hf
  refine lv_aload_n hx hb dX7_worked_96 rfl (lv_at hl 0 rfl) ?_
  obtain ⟨r112, m111, cm111, hf⟩ := b2_el (o := f_X7_pop a0 m110) hf
  refine x_callVi (As := []) (rest := []) C hl.1 hw cb_X7_59 cv_X7_pop (k_X7_pop hw.2.2.2.2 ta0 cm111) ta0 rfl rfl (by decide) ⟨Nat.le_refl _, Nat.le_refl _⟩ rfl (Nat.le_of_ble_eq_true rfl) dX7_worked_97 (fun H locs hw tr112 => ?_)
  exact x_retI C hr hk hw  hf (by decide) (by decide) dX7_worked_100
set_option maxHeartbeats 4000000 in
set_option maxRecDepth 100000 in
theorem k_X8_addLaw {l : Launch} {D : va_G} {E : Nat → ClassId} {tU : Nat} {τ : Nat → Option XTy} {a0 : Nat} {a1 : Nat} {m0 mE : XMem} (hm : mT m0 = τ) (ta0 : τ a0 = some (.inl 8)) (ta1 : τ a1 = some (.inl 2)) (hf : f_X8_addLaw a0 a1 m0 = some mE) : Ct l yX8_addLaw cX8_addLaw 2 ((Option.none : Option FieldType)) 1 0 0 D E tU [.ref a0, .ref a1] m0 (none) mE (mT mE = mT m0 ∧ True) := by
  subst hm
  refine Ct.of (by decide) (Nat.le_of_ble_eq_true rfl) (fun p e s m below meth c ls C hr hk hnm hl hw => ?_)
  have hx := C.1
  have hb := C.2.1
  have hl : lv_has ls 2 [(0, .ref a0), (1, .ref a1)] := hl
  unfold f_X8_addLaw at hf
  refine lv_aload_n hx hb dX8_addLaw_0 rfl (lv_at hl 0 rfl) ?_
  refine x_getI C hw fa_X8_18 ta0 dX8_addLaw_1 ?_
  refine lv_if_lt (tgt := 39) hx hb dX8_addLaw_4 (by decide) (fun c => ?_) (fun c => ?_)
  · have hf := ifp hf c
    exact x_ret C hr hk hw  hf (by decide) (by decide) dX8_addLaw_39
  · have hf := ifn hf c
    refine lv_aload_n hx hb dX8_addLaw_7 rfl (lv_at hl 0 rfl) ?_
    refine x_getI C hw fa_X8_18 ta0 dX8_addLaw_8 ?_
    refine lv_aload_n hx hb dX8_addLaw_11 rfl (lv_at hl 0 rfl) ?_
    obtain ⟨b101, eb101, hf⟩ := fo_el hf
    refine x_getR C hw fa_X8_42 (Or.inr ⟨_, rfl⟩) ta0 eb101 dX8_addLaw_12 (fun tb101 => ?_)
    have tb101 : ∃ n, (mT m0) b101 = some (.inr (4, n)) := tb101
    refine x_alen (ek := 4) C hw rfl tb101 dX8_addLaw_15 ?_
    refine lv_icmp_ge (tgt := 39) hx hb dX8_addLaw_16 (by decide) (fun c => ?_) (fun c => ?_)
    · have hf := ifp hf c
      exact x_ret C hr hk hw  hf (by decide) (by decide) dX8_addLaw_39
    · have hf := ifn hf c
      refine lv_aload_n hx hb dX8_addLaw_19 rfl (lv_at hl 0 rfl) ?_
      obtain ⟨b102, eb102, hf⟩ := fo_el hf
      refine x_getR C hw fa_X8_42 (Or.inr ⟨_, rfl⟩) ta0 eb102 dX8_addLaw_20 (fun tb102 => ?_)
      have tb102 : ∃ n, (mT m0) b102 = some (.inr (4, n)) := tb102
      refine lv_aload_n hx hb dX8_addLaw_23 rfl (lv_at hl 0 rfl) ?_
      refine x_getI C hw fa_X8_18 ta0 dX8_addLaw_24 ?_
      refine lv_aload_n hx hb dX8_addLaw_27 rfl (lv_at hl 1 rfl) ?_
      obtain ⟨g103, hf⟩ := gd_el hf
      refine x_aast (k := 1) (o := (some a1)) C hw rfl rfl rfl tb102 (fun b h => by cases h; exact ta1) g103 dX8_addLaw_28 (fun m104 H locs em104 hw => ?_)
      have hf := nm_el hf em104
      refine lv_aload_n hx hb dX8_addLaw_29 rfl (lv_at hl 0 rfl) ?_
      refine lv_dup hx hb dX8_addLaw_30 rfl ?_
      refine x_getI C hw fa_X8_18 ta0 dX8_addLaw_31 ?_
      refine lv_iconst hx hb dX8_addLaw_34 ki_1 ?_
      refine lv_iadd hx hb dX8_addLaw_35 ?_
      refine x_putI C hw fa_X8_18 ta0 dX8_addLaw_36 (fun m105 H locs em105 hw => ?_)
      have hf := nm_el hf em105
      exact x_ret C hr hk hw  hf (by decide) (by decide) dX8_addLaw_39
set_option maxHeartbeats 4000000 in
set_option maxRecDepth 100000 in
theorem k_X8_cellAt {l : Launch} {D : va_G} {E : Nat → ClassId} {tU : Nat} {τ : Nat → Option XTy} {a0 : Nat} {x1 : Int32} {m0 mE : XMem} {rE : Option Nat} (hm : mT m0 = τ) (ta0 : τ a0 = some (.inl 8)) (hf : f_X8_cellAt a0 x1 m0 = some (rE, mE)) : Ct l yX8_cellAt cX8_cellAt 2 ((Option.some (FieldType.object "WarmGlass$Cell"))) 1 0 0 D E tU [.ref a0, .int x1] m0 (some (va_rf rE)) mE (mT mE = mT m0 ∧ (∀ b, rE = some b → mT m0 b = some (.inl 0))) := by
  subst hm
  refine Ct.of (by decide) (Nat.le_of_ble_eq_true rfl) (fun p e s m below meth c ls C hr hk hnm hl hw => ?_)
  have hx := C.1
  have hb := C.2.1
  have hl : lv_has ls 2 [(0, .ref a0), (1, .int x1)] := hl
  unfold f_X8_cellAt at hf
  refine lv_iload_n hx hb dX8_cellAt_0 rfl (lv_at hl 1 rfl) ?_
  refine lv_if_lt (tgt := 21) hx hb dX8_cellAt_1 (by decide) (fun c => ?_) (fun c => ?_)
  · have hf := ifp hf c
    refine lv_null hx hb dX8_cellAt_21 ?_
    refine lv_goto (tgt := 31) hx hb dX8_cellAt_22 (by decide) ?_
    exact x_retQ (o := none) C hr hk hw  (fun b h => by cases h) hf (by decide) (by decide) dX8_cellAt_31
  · have hf := ifn hf c
    refine lv_iload_n hx hb dX8_cellAt_4 rfl (lv_at hl 1 rfl) ?_
    refine lv_aload_n hx hb dX8_cellAt_5 rfl (lv_at hl 0 rfl) ?_
    refine x_getI C hw fa_X8_15 ta0 dX8_cellAt_6 ?_
    refine lv_icmp_ge (tgt := 21) hx hb dX8_cellAt_9 (by decide) (fun c => ?_) (fun c => ?_)
    · have hf := ifp hf c
      refine lv_null hx hb dX8_cellAt_21 ?_
      refine lv_goto (tgt := 31) hx hb dX8_cellAt_22 (by decide) ?_
      exact x_retQ (o := none) C hr hk hw  (fun b h => by cases h) hf (by decide) (by decide) dX8_cellAt_31
    · have hf := ifn hf c
      refine lv_iload_n hx hb dX8_cellAt_12 rfl (lv_at hl 1 rfl) ?_
      refine lv_aload_n hx hb dX8_cellAt_13 rfl (lv_at hl 0 rfl) ?_
      obtain ⟨b101, eb101, hf⟩ := fo_el hf
      refine x_getR C hw fa_X8_36 (Or.inr ⟨_, rfl⟩) ta0 eb101 dX8_cellAt_14 (fun tb101 => ?_)
      have tb101 : ∃ n, (mT m0) b101 = some (.inr (3, n)) := tb101
      refine x_alen (ek := 3) C hw rfl tb101 dX8_cellAt_17 ?_
      refine lv_icmp_lt (tgt := 25) hx hb dX8_cellAt_18 (by decide) (fun c => ?_) (fun c => ?_)
      · have hf := ifp hf c
        refine lv_aload_n hx hb dX8_cellAt_25 rfl (lv_at hl 0 rfl) ?_
        obtain ⟨b102, eb102, hf⟩ := fo_el hf
        refine x_getR C hw fa_X8_36 (Or.inr ⟨_, rfl⟩) ta0 eb102 dX8_cellAt_26 (fun tb102 => ?_)
        have tb102 : ∃ n, (mT m0) b102 = some (.inr (3, n)) := tb102
        refine lv_iload_n hx hb dX8_cellAt_29 rfl (lv_at hl 1 rfl) ?_
        obtain ⟨g103, hf⟩ := gd_el hf
        refine x_aald (ek := 3) C hw rfl (by decide) tb102 g103 dX8_cellAt_30 (fun to104 => ?_)
        refine lv_topq (fun o104 eo104 => ?_)
        have hf := nm_el hf eo104
        have to104 : ∀ b, o104 = some b → (mT m0) b = some (.inl 0) := fun b h => to104 b (eo104.symm.trans h)
        exact x_retQ (o := o104) C hr hk hw  to104 hf (by decide) (by decide) dX8_cellAt_31
      · have hf := ifn hf c
        refine lv_null hx hb dX8_cellAt_21 ?_
        refine lv_goto (tgt := 31) hx hb dX8_cellAt_22 (by decide) ?_
        exact x_retQ (o := none) C hr hk hw  (fun b h => by cases h) hf (by decide) (by decide) dX8_cellAt_31
set_option maxHeartbeats 4000000 in
set_option maxRecDepth 100000 in
theorem w_X8_allHeat_h4 {p : Program} {l : Launch} {e : Env} {s : State} {m : MethodId} {args : Array Value} {below : List Frame} {meth : Method} {c : Code} {D : va_G} {E : Nat → ClassId} {tU : Nat} {m0 mE : XMem} {rE : Int32} (C : Cx p s m args c cX8_allHeat 4 RX8 D E (Am m0) tU) (hr : meth.sig.returnType = ((Option.some FieldType.int))) (hk : meth.locks = false) (hnm : meth.name = yX8_allHeat.name) {a0 : Nat} (ta0 : mT m0 a0 = some (.inl 8)) {k39 : Int32 →  XMem → Option (Int32 × XMem)} (hk39 : ∀ (y1 : Int32) (mu : XMem) (H : Heap) (locs : List Loc) (ls : Array Slot), lv_has ls 4 [(1, .int y1)] → Wd D E (Am m0) s (mT m0) mu H locs →   k39 y1 mu = some (rE, mE) → W p l e (rmN 2 0 0) s m args below meth c H locs 0 0 (MQ below (XQ D E (Am m0) (some (.int rE)) mE (mT mE = mT m0 ∧ True)) args s 0 0 (Am m0)) (F0 m 39 ls [])) : ∀ (n : Nat) (x1 : Int32) (x2 : Int32) (mu : XMem) (H : Heap) (locs : List Loc) (ls : Array Slot), lv_has ls 4 [(0, .ref a0), (1, .int x1), (2, .int x2)] → Wd D E (Am m0) s (mT m0) mu H locs → f_X8_allHeat_h4 a0 k39 n x1 x2 mu = some (rE, mE) → W p l e (rmN 2 0 0) s m args below meth c H locs 0 0 (MQ below (XQ D E (Am m0) (some (.int rE)) mE (mT mE = mT m0 ∧ True)) args s 0 0 (Am m0)) (F0 m 4 ls []) := by
  have hx := C.1
  have hb := C.2.1
  intro n
  induction n with
  | zero =>
    intros
    rename_i hf
    cases hf
  | succ n ih =>
    intro x1 x2 mu H locs ls hl hw hf
    rw [f_X8_allHeat_h4] at hf
    refine lv_iload_n hx hb dX8_allHeat_4 rfl (lv_at hl 2 rfl) ?_
    refine lv_aload_n hx hb dX8_allHeat_5 rfl (lv_at hl 0 rfl) ?_
    refine x_getI C hw fa_X8_15 ta0 dX8_allHeat_6 ?_
    refine lv_icmp_ge (tgt := 39) hx hb dX8_allHeat_9 (by decide) (fun c => ?_) (fun c => ?_)
    · have hf := ifp hf c
      exact hk39 _ _ _ _ _ (lv_sub hl [1] rfl) hw hf
    · have hf := ifn hf c
      refine lv_aload_n hx hb dX8_allHeat_12 rfl (lv_at hl 0 rfl) ?_
      refine lv_iload_n hx hb dX8_allHeat_13 rfl (lv_at hl 2 rfl) ?_
      obtain ⟨o104, m103, cm103, hf⟩ := b2_el (o := f_X8_cellAt a0 x2 mu) hf
      have hmp := hw.2.2.2.2
      refine x_callVq (As := [.int x2]) (rest := []) C hl.1 hw cb_X8_61 cv_X8_cellAt (k_X8_cellAt hw.2.2.2.2 ta0 cm103) ta0 rfl rfl (by decide) ⟨Nat.le_refl _, Nat.le_refl _⟩ rfl (Nat.le_of_ble_eq_true rfl) dX8_allHeat_14 (fun H locs hw to104 => ?_)
      have to104 : ∀ b, o104 = some b → (mT m0) b = some (.inl 0) := fun b h => by have q := to104 b h; rw [hmp] at q; exact q
      refine x_astore_nQ (lv' := [(3, va_rf o104), (0, .ref a0), (1, .int x1), (2, .int x2)]) hx hb dX8_allHeat_17 rfl hl (by decide) rfl (fun ls hl => ?_)
      refine lv_iload_n hx hb dX8_allHeat_18 rfl (lv_at hl 2 rfl) ?_
      refine x_aload_nQ hx hb dX8_allHeat_19 rfl (lv_at hl 0 rfl) ?_
      cases o104 with
      | none =>
        have hf := oc_n hf
        refine lv_ifnonnullN hx hb dX8_allHeat_20 ?_
        refine lv_iconst hx hb dX8_allHeat_23 ki_0 ?_
        refine lv_goto (tgt := 31) hx hb dX8_allHeat_24 (by decide) ?_
        refine lv_iadd hx hb dX8_allHeat_31 ?_
        refine lv_topi (fun x106 ex106 => ?_)
        have hf := nm_el hf ex106
        refine lv_istore_n (lv' := [(1, .int x106), (3, .null), (0, .ref a0), (2, .int x2)]) hx hb dX8_allHeat_32 rfl hl (by decide) rfl (fun ls hl => ?_)
        obtain ⟨x107, ex107⟩ : ∃ z : Int32, z = x2 + 1 := ⟨_, rfl⟩
        have hf := nm_el hf ex107
        refine lv_iinc (v := x107) (lv' := [(2, .int x107), (1, .int x106), (3, .null), (0, .ref a0)]) hx hb dX8_allHeat_33 hl (k := 3) rfl (by rw [ex107, ki_1]) (by decide) rfl (fun ls hl => ?_)
        refine lv_goto (tgt := 4) hx hb dX8_allHeat_36 (by decide) ?_
        exact ih _ _ _ _ _ _ (lv_sub hl [3, 1, 0] rfl) hw hf
      | some b105 =>
        have hf := oc_s hf
        have tb105 := to104 b105 rfl
        refine lv_ifnonnull (tgt := 27) hx hb dX8_allHeat_20 (by decide) ?_
        refine lv_aload_n hx hb dX8_allHeat_27 rfl (lv_at hl 0 rfl) ?_
        refine x_getI C hw fa_X8_152 tb105 dX8_allHeat_28 ?_
        refine lv_iadd hx hb dX8_allHeat_31 ?_
        refine lv_topi (fun x108 ex108 => ?_)
        have hf := nm_el hf ex108
        refine lv_istore_n (lv' := [(1, .int x108), (3, .ref b105), (0, .ref a0), (2, .int x2)]) hx hb dX8_allHeat_32 rfl hl (by decide) rfl (fun ls hl => ?_)
        obtain ⟨x109, ex109⟩ : ∃ z : Int32, z = x2 + 1 := ⟨_, rfl⟩
        have hf := nm_el hf ex109
        refine lv_iinc (v := x109) (lv' := [(2, .int x109), (1, .int x108), (3, .ref b105), (0, .ref a0)]) hx hb dX8_allHeat_33 hl (k := 3) rfl (by rw [ex109, ki_1]) (by decide) rfl (fun ls hl => ?_)
        refine lv_goto (tgt := 4) hx hb dX8_allHeat_36 (by decide) ?_
        exact ih _ _ _ _ _ _ (lv_sub hl [3, 1, 0] rfl) hw hf
set_option maxHeartbeats 4000000 in
set_option maxRecDepth 100000 in
theorem k_X8_allHeat {l : Launch} {D : va_G} {E : Nat → ClassId} {tU : Nat} {τ : Nat → Option XTy} {a0 : Nat} {m0 mE : XMem} {rE : Int32} (hm : mT m0 = τ) (ta0 : τ a0 = some (.inl 8)) (hf : f_X8_allHeat a0 m0 = some (rE, mE)) : Ct l yX8_allHeat cX8_allHeat 4 ((Option.some FieldType.int)) 2 0 0 D E tU [.ref a0] m0 (some (.int rE)) mE (mT mE = mT m0 ∧ True) := by
  subst hm
  refine Ct.of (by decide) (Nat.le_of_ble_eq_true rfl) (fun p e s m below meth c ls C hr hk hnm hl hw => ?_)
  have hx := C.1
  have hb := C.2.1
  have hl : lv_has ls 4 [(0, .ref a0)] := hl
  unfold f_X8_allHeat at hf
  refine lv_iconst hx hb dX8_allHeat_0 ki_0 ?_
  refine lv_istore_n (lv' := [(1, .int 0), (0, .ref a0)]) hx hb dX8_allHeat_1 rfl hl (by decide) rfl (fun ls hl => ?_)
  refine lv_iconst hx hb dX8_allHeat_2 ki_0 ?_
  refine lv_istore_n (lv' := [(2, .int 0), (1, .int 0), (0, .ref a0)]) hx hb dX8_allHeat_3 rfl hl (by decide) rfl (fun ls hl => ?_)
  refine w_X8_allHeat_h4 C hr hk hnm ta0 ?_ 2000 _ _ _ _ _ _ (lv_sub hl [2, 1, 0] rfl) hw hf
  intro x102 m101 H locs ls hl hw hf
  refine lv_iload_n hx hb dX8_allHeat_39 rfl (lv_at hl 0 rfl) ?_
  exact x_retI C hr hk hw  hf (by decide) (by decide) dX8_allHeat_40
set_option maxHeartbeats 4000000 in
set_option maxRecDepth 100000 in
theorem k_X8_houseAt {l : Launch} {D : va_G} {E : Nat → ClassId} {tU : Nat} {τ : Nat → Option XTy} {a0 : Nat} {x1 : Int32} {m0 mE : XMem} {rE : Option Nat} (hm : mT m0 = τ) (ta0 : τ a0 = some (.inl 8)) (hf : f_X8_houseAt a0 x1 m0 = some (rE, mE)) : Ct l yX8_houseAt cX8_houseAt 2 ((Option.some (FieldType.object "WarmGlass$House"))) 1 0 0 D E tU [.ref a0, .int x1] m0 (some (va_rf rE)) mE (mT mE = mT m0 ∧ (∀ b, rE = some b → mT m0 b = some (.inl 1))) := by
  subst hm
  refine Ct.of (by decide) (Nat.le_of_ble_eq_true rfl) (fun p e s m below meth c ls C hr hk hnm hl hw => ?_)
  have hx := C.1
  have hb := C.2.1
  have hl : lv_has ls 2 [(0, .ref a0), (1, .int x1)] := hl
  unfold f_X8_houseAt at hf
  refine lv_iload_n hx hb dX8_houseAt_0 rfl (lv_at hl 1 rfl) ?_
  refine lv_if_lt (tgt := 21) hx hb dX8_houseAt_1 (by decide) (fun c => ?_) (fun c => ?_)
  · have hf := ifp hf c
    refine lv_null hx hb dX8_houseAt_21 ?_
    refine lv_goto (tgt := 31) hx hb dX8_houseAt_22 (by decide) ?_
    exact x_retQ (o := none) C hr hk hw  (fun b h => by cases h) hf (by decide) (by decide) dX8_houseAt_31
  · have hf := ifn hf c
    refine lv_iload_n hx hb dX8_houseAt_4 rfl (lv_at hl 1 rfl) ?_
    refine lv_aload_n hx hb dX8_houseAt_5 rfl (lv_at hl 0 rfl) ?_
    refine x_getI C hw fa_X8_21 ta0 dX8_houseAt_6 ?_
    refine lv_icmp_ge (tgt := 21) hx hb dX8_houseAt_9 (by decide) (fun c => ?_) (fun c => ?_)
    · have hf := ifp hf c
      refine lv_null hx hb dX8_houseAt_21 ?_
      refine lv_goto (tgt := 31) hx hb dX8_houseAt_22 (by decide) ?_
      exact x_retQ (o := none) C hr hk hw  (fun b h => by cases h) hf (by decide) (by decide) dX8_houseAt_31
    · have hf := ifn hf c
      refine lv_iload_n hx hb dX8_houseAt_12 rfl (lv_at hl 1 rfl) ?_
      refine lv_aload_n hx hb dX8_houseAt_13 rfl (lv_at hl 0 rfl) ?_
      obtain ⟨b101, eb101, hf⟩ := fo_el hf
      refine x_getR C hw fa_X8_48 (Or.inr ⟨_, rfl⟩) ta0 eb101 dX8_houseAt_14 (fun tb101 => ?_)
      have tb101 : ∃ n, (mT m0) b101 = some (.inr (5, n)) := tb101
      refine x_alen (ek := 5) C hw rfl tb101 dX8_houseAt_17 ?_
      refine lv_icmp_lt (tgt := 25) hx hb dX8_houseAt_18 (by decide) (fun c => ?_) (fun c => ?_)
      · have hf := ifp hf c
        refine lv_aload_n hx hb dX8_houseAt_25 rfl (lv_at hl 0 rfl) ?_
        obtain ⟨b102, eb102, hf⟩ := fo_el hf
        refine x_getR C hw fa_X8_48 (Or.inr ⟨_, rfl⟩) ta0 eb102 dX8_houseAt_26 (fun tb102 => ?_)
        have tb102 : ∃ n, (mT m0) b102 = some (.inr (5, n)) := tb102
        refine lv_iload_n hx hb dX8_houseAt_29 rfl (lv_at hl 1 rfl) ?_
        obtain ⟨g103, hf⟩ := gd_el hf
        refine x_aald (ek := 5) C hw rfl (by decide) tb102 g103 dX8_houseAt_30 (fun to104 => ?_)
        refine lv_topq (fun o104 eo104 => ?_)
        have hf := nm_el hf eo104
        have to104 : ∀ b, o104 = some b → (mT m0) b = some (.inl 1) := fun b h => to104 b (eo104.symm.trans h)
        exact x_retQ (o := o104) C hr hk hw  to104 hf (by decide) (by decide) dX8_houseAt_31
      · have hf := ifn hf c
        refine lv_null hx hb dX8_houseAt_21 ?_
        refine lv_goto (tgt := 31) hx hb dX8_houseAt_22 (by decide) ?_
        exact x_retQ (o := none) C hr hk hw  (fun b h => by cases h) hf (by decide) (by decide) dX8_houseAt_31
set_option maxHeartbeats 4000000 in
set_option maxRecDepth 100000 in
theorem k_X8_shareOf {l : Launch} {D : va_G} {E : Nat → ClassId} {tU : Nat} {τ : Nat → Option XTy} {a0 : Nat} {x1 : Int32} {m0 mE : XMem} {rE : Int64} (hm : mT m0 = τ) (ta0 : τ a0 = some (.inl 8)) (hf : f_X8_shareOf a0 x1 m0 = some (rE, mE)) : Ct l yX8_shareOf cX8_shareOf 3 ((Option.some FieldType.long)) 3 0 0 D E tU [.ref a0, .int x1] m0 (some (.long rE)) mE (mT mE = mT m0 ∧ True) := by
  subst hm
  refine Ct.of (by decide) (Nat.le_of_ble_eq_true rfl) (fun p e s m below meth c ls C hr hk hnm hl hw => ?_)
  have hx := C.1
  have hb := C.2.1
  have hl : lv_has ls 3 [(0, .ref a0), (1, .int x1)] := hl
  unfold f_X8_shareOf at hf
  refine lv_aload_n hx hb dX8_shareOf_0 rfl (lv_at hl 0 rfl) ?_
  refine lv_iload_n hx hb dX8_shareOf_1 rfl (lv_at hl 1 rfl) ?_
  obtain ⟨o102, m101, cm101, hf⟩ := b2_el (o := f_X8_houseAt a0 x1 m0) hf
  have hmp := hw.2.2.2.2
  refine x_callVq (As := [.int x1]) (rest := []) C hl.1 hw cb_X8_73 cv_X8_houseAt (k_X8_houseAt hw.2.2.2.2 ta0 cm101) ta0 rfl rfl (by decide) ⟨Nat.le_refl _, Nat.le_refl _⟩ rfl (Nat.le_of_ble_eq_true rfl) dX8_shareOf_2 (fun H locs hw to102 => ?_)
  have to102 : ∀ b, o102 = some b → (mT m0) b = some (.inl 1) := fun b h => by have q := to102 b h; rw [hmp] at q; exact q
  refine x_astore_nQ (lv' := [(2, va_rf o102), (0, .ref a0), (1, .int x1)]) hx hb dX8_shareOf_5 rfl hl (by decide) rfl (fun ls hl => ?_)
  refine x_aload_nQ hx hb dX8_shareOf_6 rfl (lv_at hl 0 rfl) ?_
  cases o102 with
  | none =>
    have hf := oc_n hf
    refine lv_ifnonnullN hx hb dX8_shareOf_7 ?_
    refine lv_lconst hx hb dX8_shareOf_10 kl_0 ?_
    refine lv_goto (tgt := 18) hx hb dX8_shareOf_11 (by decide) ?_
    exact x_retL C hr hk hw  hf (by decide) (by decide) dX8_shareOf_18
  | some b103 =>
    have hf := oc_s hf
    have tb103 := to102 b103 rfl
    refine lv_ifnonnull (tgt := 14) hx hb dX8_shareOf_7 (by decide) ?_
    refine lv_aload_n hx hb dX8_shareOf_14 rfl (lv_at hl 0 rfl) ?_
    obtain ⟨l105, m104, cm104, hf⟩ := b2_el (o := f_X1_share b103 m101) hf
    refine x_callVl (As := []) (rest := []) C hl.1 hw cb_X8_166 cv_X1_share (k_X1_share hw.2.2.2.2 tb103 cm104) tb103 rfl rfl (by decide) ⟨Nat.le_refl _, Nat.le_refl _⟩ rfl (Nat.le_of_ble_eq_true rfl) dX8_shareOf_15 (fun H locs hw tl105 => ?_)
    exact x_retL C hr hk hw  hf (by decide) (by decide) dX8_shareOf_18
set_option maxHeartbeats 4000000 in
set_option maxRecDepth 100000 in
theorem w_X8_allShares_h4 {p : Program} {l : Launch} {e : Env} {s : State} {m : MethodId} {args : Array Value} {below : List Frame} {meth : Method} {c : Code} {D : va_G} {E : Nat → ClassId} {tU : Nat} {m0 mE : XMem} {rE : Int64} (C : Cx p s m args c cX8_allShares 4 RX8 D E (Am m0) tU) (hr : meth.sig.returnType = ((Option.some FieldType.long))) (hk : meth.locks = false) (hnm : meth.name = yX8_allShares.name) {a0 : Nat} (ta0 : mT m0 a0 = some (.inl 8)) {k26 : Int64 →  XMem → Option (Int64 × XMem)} (hk26 : ∀ (y1 : Int64) (mu : XMem) (H : Heap) (locs : List Loc) (ls : Array Slot), lv_has ls 4 [(1, .long y1)] → Wd D E (Am m0) s (mT m0) mu H locs →   k26 y1 mu = some (rE, mE) → W p l e (rmN 4 0 0) s m args below meth c H locs 0 0 (MQ below (XQ D E (Am m0) (some (.long rE)) mE (mT mE = mT m0 ∧ True)) args s 0 0 (Am m0)) (F0 m 26 ls [])) : ∀ (n : Nat) (l1 : Int64) (x3 : Int32) (mu : XMem) (H : Heap) (locs : List Loc) (ls : Array Slot), lv_has ls 4 [(0, .ref a0), (1, .long l1), (3, .int x3)] → Wd D E (Am m0) s (mT m0) mu H locs → f_X8_allShares_h4 a0 k26 n l1 x3 mu = some (rE, mE) → W p l e (rmN 4 0 0) s m args below meth c H locs 0 0 (MQ below (XQ D E (Am m0) (some (.long rE)) mE (mT mE = mT m0 ∧ True)) args s 0 0 (Am m0)) (F0 m 4 ls []) := by
  have hx := C.1
  have hb := C.2.1
  intro n
  induction n with
  | zero =>
    intros
    rename_i hf
    cases hf
  | succ n ih =>
    intro l1 x3 mu H locs ls hl hw hf
    rw [f_X8_allShares_h4] at hf
    refine lv_iload_n hx hb dX8_allShares_4 rfl (lv_at hl 2 rfl) ?_
    refine lv_aload_n hx hb dX8_allShares_5 rfl (lv_at hl 0 rfl) ?_
    refine x_getI C hw fa_X8_21 ta0 dX8_allShares_6 ?_
    refine lv_icmp_ge (tgt := 26) hx hb dX8_allShares_9 (by decide) (fun c => ?_) (fun c => ?_)
    · have hf := ifp hf c
      exact hk26 _ _ _ _ _ (lv_sub hl [1] rfl) hw hf
    · have hf := ifn hf c
      refine lv_lload_n hx hb dX8_allShares_12 rfl (lv_at hl 1 rfl) ?_
      refine lv_aload_n hx hb dX8_allShares_13 rfl (lv_at hl 0 rfl) ?_
      refine lv_iload_n hx hb dX8_allShares_14 rfl (lv_at hl 2 rfl) ?_
      obtain ⟨l104, m103, cm103, hf⟩ := b2_el (o := f_X8_shareOf a0 x3 mu) hf
      refine x_callVl (As := [.int x3]) (rest := [.long l1]) C hl.1 hw cb_X8_162 cv_X8_shareOf (k_X8_shareOf hw.2.2.2.2 ta0 cm103) ta0 rfl rfl (by decide) ⟨Nat.le_refl _, Nat.le_refl _⟩ rfl (Nat.le_of_ble_eq_true rfl) dX8_allShares_15 (fun H locs hw tl104 => ?_)
      refine lv_ladd hx hb dX8_allShares_18 ?_
      refine lv_topl (fun l105 el105 => ?_)
      have hf := nm_el hf el105
      refine lv_lstore_n (lv' := [(1, .long l105), (0, .ref a0), (3, .int x3)]) hx hb dX8_allShares_19 rfl hl (by decide) rfl (fun ls hl => ?_)
      obtain ⟨x106, ex106⟩ : ∃ z : Int32, z = x3 + 1 := ⟨_, rfl⟩
      have hf := nm_el hf ex106
      refine lv_iinc (v := x106) (lv' := [(3, .int x106), (1, .long l105), (0, .ref a0)]) hx hb dX8_allShares_20 hl (k := 2) rfl (by rw [ex106, ki_1]) (by decide) rfl (fun ls hl => ?_)
      refine lv_goto (tgt := 4) hx hb dX8_allShares_23 (by decide) ?_
      exact ih _ _ _ _ _ _ (lv_sub hl [2, 1, 0] rfl) hw hf
set_option maxHeartbeats 4000000 in
set_option maxRecDepth 100000 in
theorem k_X8_allShares {l : Launch} {D : va_G} {E : Nat → ClassId} {tU : Nat} {τ : Nat → Option XTy} {a0 : Nat} {m0 mE : XMem} {rE : Int64} (hm : mT m0 = τ) (ta0 : τ a0 = some (.inl 8)) (hf : f_X8_allShares a0 m0 = some (rE, mE)) : Ct l yX8_allShares cX8_allShares 4 ((Option.some FieldType.long)) 4 0 0 D E tU [.ref a0] m0 (some (.long rE)) mE (mT mE = mT m0 ∧ True) := by
  subst hm
  refine Ct.of (by decide) (Nat.le_of_ble_eq_true rfl) (fun p e s m below meth c ls C hr hk hnm hl hw => ?_)
  have hx := C.1
  have hb := C.2.1
  have hl : lv_has ls 4 [(0, .ref a0)] := hl
  unfold f_X8_allShares at hf
  refine lv_lconst hx hb dX8_allShares_0 kl_0 ?_
  refine lv_lstore_n (lv' := [(1, .long 0), (0, .ref a0)]) hx hb dX8_allShares_1 rfl hl (by decide) rfl (fun ls hl => ?_)
  refine lv_iconst hx hb dX8_allShares_2 ki_0 ?_
  refine lv_istore_n (lv' := [(3, .int 0), (1, .long 0), (0, .ref a0)]) hx hb dX8_allShares_3 rfl hl (by decide) rfl (fun ls hl => ?_)
  refine w_X8_allShares_h4 C hr hk hnm ta0 ?_ 2000 _ _ _ _ _ _ (lv_sub hl [2, 1, 0] rfl) hw hf
  intro l102 m101 H locs ls hl hw hf
  refine lv_lload_n hx hb dX8_allShares_26 rfl (lv_at hl 0 rfl) ?_
  exact x_retL C hr hk hw  hf (by decide) (by decide) dX8_allShares_27
set_option maxHeartbeats 4000000 in
set_option maxRecDepth 100000 in
theorem k_X8_choiceOf {l : Launch} {D : va_G} {E : Nat → ClassId} {tU : Nat} {τ : Nat → Option XTy} {a0 : Nat} {a1 : Nat} {x2 : Int32} {x3 : Int32} {m0 mE : XMem} {rE : Int32} (hm : mT m0 = τ) (ta0 : τ a0 = some (.inl 8)) (ta1 : τ a1 = some (.inl 0)) (hf : f_X8_choiceOf a0 a1 x2 x3 m0 = some (rE, mE)) : Ct l yX8_choiceOf cX8_choiceOf 4 ((Option.some FieldType.int)) 4 0 0 D E tU [.ref a0, .ref a1, .int x2, .int x3] m0 (some (.int rE)) mE (mT mE = mT m0 ∧ True) := by
  subst hm
  refine Ct.of (by decide) (Nat.le_of_ble_eq_true rfl) (fun p e s m below meth c ls C hr hk hnm hl hw => ?_)
  have hx := C.1
  have hb := C.2.1
  have hl : lv_has ls 4 [(0, .ref a0), (1, .ref a1), (2, .int x2), (3, .int x3)] := hl
  unfold f_X8_choiceOf at hf
  refine lv_aload_n hx hb dX8_choiceOf_0 rfl (lv_at hl 0 rfl) ?_
  refine x_getQ C hw fa_X8_31 (Or.inl ⟨_, rfl⟩) ta0 dX8_choiceOf_1 ?_
  refine lv_topq (fun o101 eo101 => ?_)
  have hf := nm_el hf eo101
  have to101 : ∀ b, o101 = some b → (mT m0) b = some (.inl 6) := fun b h => xo_keep hw ta0 6 b (eo101.symm.trans h)
  cases o101 with
  | none =>
    have hf := oc_n hf
    refine lv_ifnonnullN hx hb dX8_choiceOf_4 ?_
    refine lv_iconst hx hb dX8_choiceOf_7 ki_1 ?_
    refine lv_goto (tgt := 29) hx hb dX8_choiceOf_8 (by decide) ?_
    exact x_retI C hr hk hw  hf (by decide) (by decide) dX8_choiceOf_29
  | some b102 =>
    have hf := oc_s hf
    have tb102 := to101 b102 rfl
    refine lv_ifnonnull (tgt := 11) hx hb dX8_choiceOf_4 (by decide) ?_
    refine lv_aload_n hx hb dX8_choiceOf_11 rfl (lv_at hl 0 rfl) ?_
    obtain ⟨b103, eb103, hf⟩ := fo_el hf
    refine x_getR C hw fa_X8_55 (Or.inl ⟨_, rfl⟩) ta0 eb103 dX8_choiceOf_12 (fun tb103 => ?_)
    have tb103 : (mT m0) b103 = some (.inl 7) := tb103
    refine lv_aload_n hx hb dX8_choiceOf_15 rfl (lv_at hl 0 rfl) ?_
    obtain ⟨b104, eb104, hf⟩ := fo_el hf
    refine x_getR C hw fa_X8_31 (Or.inl ⟨_, rfl⟩) ta0 eb104 dX8_choiceOf_16 (fun tb104 => ?_)
    have tb104 : (mT m0) b104 = some (.inl 6) := tb104
    refine lv_aload_n hx hb dX8_choiceOf_19 rfl (lv_at hl 1 rfl) ?_
    refine lv_aload_n hx hb dX8_choiceOf_20 rfl (lv_at hl 1 rfl) ?_
    obtain ⟨r106, m105, cm105, hf⟩ := b2_el (o := f_X0_thermometer a1 m0) hf
    refine x_callVi (As := []) (rest := [.ref a1, .ref b104, .ref b103]) C hl.1 hw cb_X8_88 cv_X0_thermometer (k_X0_thermometer hw.2.2.2.2 ta1 cm105) ta1 rfl rfl (by decide) ⟨Nat.le_refl _, Nat.le_refl _⟩ rfl (Nat.le_of_ble_eq_true rfl) dX8_choiceOf_21 (fun H locs hw tr106 => ?_)
    refine lv_iload_n hx hb dX8_choiceOf_24 rfl (lv_at hl 3 rfl) ?_
    refine lv_iload_n hx hb dX8_choiceOf_25 rfl (lv_at hl 2 rfl) ?_
    obtain ⟨r108, m107, cm107, hf⟩ := b2_el (o := f_X7_worked b103 b104 a1 r106 x3 x2 m105) hf
    refine x_callVi (As := [.ref b104, .ref a1, .int r106, .int x3, .int x2]) (rest := []) C hl.1 hw cb_X8_84 cv_X7_worked (k_X7_worked hw.2.2.2.2 tb103 tb104 ta1 cm107) tb103 rfl rfl (by decide) ⟨Nat.le_refl _, Nat.le_refl _⟩ rfl (Nat.le_of_ble_eq_true rfl) dX8_choiceOf_26 (fun H locs hw tr108 => ?_)
    exact x_retI C hr hk hw  hf (by decide) (by decide) dX8_choiceOf_29
set_option maxHeartbeats 4000000 in
set_option maxRecDepth 100000 in
theorem w_X8_coinsOf_h50 {p : Program} {l : Launch} {e : Env} {s : State} {m : MethodId} {args : Array Value} {below : List Frame} {meth : Method} {c : Code} {D : va_G} {E : Nat → ClassId} {tU : Nat} {m0 mE : XMem} {rE : Int32} (C : Cx p s m args c cX8_coinsOf 18 RX8 D E (Am m0) tU) (hr : meth.sig.returnType = ((Option.some FieldType.int))) (hk : meth.locks = false) (hnm : meth.name = yX8_coinsOf.name) {a0 : Nat} {x1 : Int32} {x2 : Int32} {l3 : Int64} {l7 : Int64} {l9 : Int64} (ta0 : mT m0 a0 = some (.inl 8)) {k128 : Int64 → Int64 →  XMem → Option (Int32 × XMem)} (hk128 : ∀ (y11 : Int64) (y13 : Int64) (mu : XMem) (H : Heap) (locs : List Loc) (ls : Array Slot), lv_has ls 18 [(7, .long l7), (11, .long y11), (13, .long y13)] → Wd D E (Am m0) s (mT m0) mu H locs →   k128 y11 y13 mu = some (rE, mE) → W p l e (rmN 4 0 0) s m args below meth c H locs 0 0 (MQ below (XQ D E (Am m0) (some (.int rE)) mE (mT mE = mT m0 ∧ True)) args s 0 0 (Am m0)) (F0 m 128 ls [])) : ∀ (n : Nat) (l11 : Int64) (l13 : Int64) (x15 : Int32) (mu : XMem) (H : Heap) (locs : List Loc) (ls : Array Slot), lv_has ls 18 [(0, .ref a0), (1, .int x1), (2, .int x2), (3, .long l3), (7, .long l7), (9, .long l9), (11, .long l11), (13, .long l13), (15, .int x15)] → Wd D E (Am m0) s (mT m0) mu H locs → f_X8_coinsOf_h50 a0 x1 x2 l3 l7 l9 k128 n l11 l13 x15 mu = some (rE, mE) → W p l e (rmN 4 0 0) s m args below meth c H locs 0 0 (MQ below (XQ D E (Am m0) (some (.int rE)) mE (mT mE = mT m0 ∧ True)) args s 0 0 (Am m0)) (F0 m 50 ls []) := by
  have hx := C.1
  have hb := C.2.1
  intro n
  induction n with
  | zero =>
    intros
    rename_i hf
    cases hf
  | succ n ih =>
    intro l11 l13 x15 mu H locs ls hl hw hf
    rw [f_X8_coinsOf_h50] at hf
    refine lv_iload hx hb dX8_coinsOf_50 (lv_at hl 8 rfl) ?_
    refine lv_aload_n hx hb dX8_coinsOf_52 rfl (lv_at hl 0 rfl) ?_
    refine x_getI C hw fa_X8_21 ta0 dX8_coinsOf_53 ?_
    refine lv_icmp_ge (tgt := 128) hx hb dX8_coinsOf_56 (by decide) (fun c => ?_) (fun c => ?_)
    · have hf := ifp hf c
      exact hk128 _ _ _ _ _ _ (lv_sub hl [4, 6, 7] rfl) hw hf
    · have hf := ifn hf c
      refine lv_iload_n hx hb dX8_coinsOf_59 rfl (lv_at hl 2 rfl) ?_
      refine lv_i2l (v := (Int32.toInt64 x2)) hx hb dX8_coinsOf_60 rfl ?_
      refine lv_aload_n hx hb dX8_coinsOf_61 rfl (lv_at hl 0 rfl) ?_
      refine lv_iload hx hb dX8_coinsOf_62 (lv_at hl 8 rfl) ?_
      obtain ⟨l112, m111, cm111, hf⟩ := b2_el (o := f_X8_shareOf a0 x15 mu) hf
      refine x_callVl (As := [.int x15]) (rest := [.long (Int32.toInt64 x2)]) C hl.1 hw cb_X8_162 cv_X8_shareOf (k_X8_shareOf hw.2.2.2.2 ta0 cm111) ta0 rfl rfl (by decide) ⟨Nat.le_refl _, Nat.le_refl _⟩ rfl (Nat.le_of_ble_eq_true rfl) dX8_coinsOf_64 (fun H locs hw tl112 => ?_)
      refine lv_lmul hx hb dX8_coinsOf_67 ?_
      refine lv_topl (fun l113 el113 => ?_)
      have hf := nm_el hf el113
      refine lv_lstore (lv' := [(16, .long l113), (0, .ref a0), (1, .int x1), (2, .int x2), (3, .long l3), (7, .long l7), (9, .long l9), (11, .long l11), (13, .long l13), (15, .int x15)]) hx hb dX8_coinsOf_68 hl (by decide) rfl (fun ls hl => ?_)
      refine lv_lload hx hb dX8_coinsOf_70 (lv_at hl 7 rfl) ?_
      refine lv_lload hx hb dX8_coinsOf_72 (lv_at hl 0 rfl) ?_
      refine lv_lload_n hx hb dX8_coinsOf_74 rfl (lv_at hl 4 rfl) ?_
      obtain ⟨g114, hf⟩ := gd_el hf
      refine lv_ldiv hx hb dX8_coinsOf_75 (nzL_ne g114) ?_
      refine lv_lsub hx hb dX8_coinsOf_76 ?_
      refine lv_topl (fun l115 el115 => ?_)
      have hf := nm_el hf el115
      refine lv_lstore (lv' := [(11, .long l115), (16, .long l113), (0, .ref a0), (1, .int x1), (2, .int x2), (3, .long l3), (7, .long l7), (9, .long l9), (13, .long l13), (15, .int x15)]) hx hb dX8_coinsOf_77 hl (by decide) rfl (fun ls hl => ?_)
      refine lv_lload hx hb dX8_coinsOf_79 (lv_at hl 1 rfl) ?_
      refine lv_lload_n hx hb dX8_coinsOf_81 rfl (lv_at hl 5 rfl) ?_
      obtain ⟨g116, hf⟩ := gd_el hf
      refine lv_lrem hx hb dX8_coinsOf_82 (nzL_ne g116) ?_
      refine lv_lload hx hb dX8_coinsOf_83 (lv_at hl 7 rfl) ?_
      refine W.lcmp hx hb dX8_coinsOf_85 ?_
      refine lv_if_gt (tgt := 116) hx hb dX8_coinsOf_86 (by decide) (fun c => ?_) (fun c => ?_)
      · have hf := ifp hf c
        refine lv_lload hx hb dX8_coinsOf_116 (lv_at hl 8 rfl) ?_
        refine lv_lconst hx hb dX8_coinsOf_118 kl_1 ?_
        refine lv_ladd hx hb dX8_coinsOf_119 ?_
        refine lv_topl (fun l117 el117 => ?_)
        have hf := nm_el hf el117
        refine lv_lstore (lv' := [(13, .long l117), (11, .long l115), (16, .long l113), (0, .ref a0), (1, .int x1), (2, .int x2), (3, .long l3), (7, .long l7), (9, .long l9), (15, .int x15)]) hx hb dX8_coinsOf_120 hl (by decide) rfl (fun ls hl => ?_)
        obtain ⟨x118, ex118⟩ : ∃ z : Int32, z = x15 + 1 := ⟨_, rfl⟩
        have hf := nm_el hf ex118
        refine lv_iinc (v := x118) (lv' := [(15, .int x118), (13, .long l117), (11, .long l115), (16, .long l113), (0, .ref a0), (1, .int x1), (2, .int x2), (3, .long l3), (7, .long l7), (9, .long l9)]) hx hb dX8_coinsOf_122 hl (k := 9) rfl (by rw [ex118, ki_1]) (by decide) rfl (fun ls hl => ?_)
        refine lv_goto (tgt := 50) hx hb dX8_coinsOf_125 (by decide) ?_
        exact ih _ _ _ _ _ _ _ (lv_sub hl [4, 5, 6, 7, 8, 9, 2, 1, 0] rfl) hw hf
      · have hf := ifn hf c
        refine lv_iload hx hb dX8_coinsOf_89 (lv_at hl 9 rfl) ?_
        refine lv_iload_n hx hb dX8_coinsOf_91 rfl (lv_at hl 3 rfl) ?_
        refine lv_icmp_ge (tgt := 122) hx hb dX8_coinsOf_92 (by decide) (fun c => ?_) (fun c => ?_)
        · have hf := ifp hf c
          obtain ⟨x119, ex119⟩ : ∃ z : Int32, z = x15 + 1 := ⟨_, rfl⟩
          have hf := nm_el hf ex119
          refine lv_iinc (v := x119) (lv' := [(15, .int x119), (11, .long l115), (16, .long l113), (0, .ref a0), (1, .int x1), (2, .int x2), (3, .long l3), (7, .long l7), (9, .long l9), (13, .long l13)]) hx hb dX8_coinsOf_122 hl (k := 9) rfl (by rw [ex119, ki_1]) (by decide) rfl (fun ls hl => ?_)
          refine lv_goto (tgt := 50) hx hb dX8_coinsOf_125 (by decide) ?_
          exact ih _ _ _ _ _ _ _ (lv_sub hl [3, 4, 5, 6, 7, 8, 1, 9, 0] rfl) hw hf
        · have hf := ifn hf c
          refine lv_lload hx hb dX8_coinsOf_95 (lv_at hl 1 rfl) ?_
          refine lv_lload_n hx hb dX8_coinsOf_97 rfl (lv_at hl 5 rfl) ?_
          obtain ⟨g120, hf⟩ := gd_el hf
          refine lv_lrem hx hb dX8_coinsOf_98 (nzL_ne g120) ?_
          refine lv_lload hx hb dX8_coinsOf_99 (lv_at hl 7 rfl) ?_
          refine W.lcmp hx hb dX8_coinsOf_101 ?_
          refine lv_if_ne (tgt := 122) hx hb dX8_coinsOf_102 (by decide) (fun c => ?_) (fun c => ?_)
          · have hf := ifn hf c
            obtain ⟨x121, ex121⟩ : ∃ z : Int32, z = x15 + 1 := ⟨_, rfl⟩
            have hf := nm_el hf ex121
            refine lv_iinc (v := x121) (lv' := [(15, .int x121), (11, .long l115), (16, .long l113), (0, .ref a0), (1, .int x1), (2, .int x2), (3, .long l3), (7, .long l7), (9, .long l9), (13, .long l13)]) hx hb dX8_coinsOf_122 hl (k := 9) rfl (by rw [ex121, ki_1]) (by decide) rfl (fun ls hl => ?_)
            refine lv_goto (tgt := 50) hx hb dX8_coinsOf_125 (by decide) ?_
            exact ih _ _ _ _ _ _ _ (lv_sub hl [3, 4, 5, 6, 7, 8, 1, 9, 0] rfl) hw hf
          · have hf := ifp hf c
            refine lv_aload_n hx hb dX8_coinsOf_105 rfl (lv_at hl 2 rfl) ?_
            refine lv_iload hx hb dX8_coinsOf_106 (lv_at hl 9 rfl) ?_
            obtain ⟨l123, m122, cm122, hf⟩ := b2_el (o := f_X8_shareOf a0 x15 m111) hf
            refine x_callVl (As := [.int x15]) (rest := []) C hl.1 hw cb_X8_162 cv_X8_shareOf (k_X8_shareOf hw.2.2.2.2 ta0 cm122) ta0 rfl rfl (by decide) ⟨Nat.le_refl _, Nat.le_refl _⟩ rfl (Nat.le_of_ble_eq_true rfl) dX8_coinsOf_108 (fun H locs hw tl123 => ?_)
            refine lv_lconst hx hb dX8_coinsOf_111 kl_0 ?_
            refine W.lcmp hx hb dX8_coinsOf_112 ?_
            refine lv_if_le (tgt := 122) hx hb dX8_coinsOf_113 (by decide) (fun c => ?_) (fun c => ?_)
            · have hf := ifp hf c
              obtain ⟨x124, ex124⟩ : ∃ z : Int32, z = x15 + 1 := ⟨_, rfl⟩
              have hf := nm_el hf ex124
              refine lv_iinc (v := x124) (lv' := [(15, .int x124), (11, .long l115), (16, .long l113), (0, .ref a0), (1, .int x1), (2, .int x2), (3, .long l3), (7, .long l7), (9, .long l9), (13, .long l13)]) hx hb dX8_coinsOf_122 hl (k := 9) rfl (by rw [ex124, ki_1]) (by decide) rfl (fun ls hl => ?_)
              refine lv_goto (tgt := 50) hx hb dX8_coinsOf_125 (by decide) ?_
              exact ih _ _ _ _ _ _ _ (lv_sub hl [3, 4, 5, 6, 7, 8, 1, 9, 0] rfl) hw hf
            · have hf := ifn hf c
              refine lv_lload hx hb dX8_coinsOf_116 (lv_at hl 8 rfl) ?_
              refine lv_lconst hx hb dX8_coinsOf_118 kl_1 ?_
              refine lv_ladd hx hb dX8_coinsOf_119 ?_
              refine lv_topl (fun l125 el125 => ?_)
              have hf := nm_el hf el125
              refine lv_lstore (lv' := [(13, .long l125), (11, .long l115), (16, .long l113), (0, .ref a0), (1, .int x1), (2, .int x2), (3, .long l3), (7, .long l7), (9, .long l9), (15, .int x15)]) hx hb dX8_coinsOf_120 hl (by decide) rfl (fun ls hl => ?_)
              obtain ⟨x126, ex126⟩ : ∃ z : Int32, z = x15 + 1 := ⟨_, rfl⟩
              have hf := nm_el hf ex126
              refine lv_iinc (v := x126) (lv' := [(15, .int x126), (13, .long l125), (11, .long l115), (16, .long l113), (0, .ref a0), (1, .int x1), (2, .int x2), (3, .long l3), (7, .long l7), (9, .long l9)]) hx hb dX8_coinsOf_122 hl (k := 9) rfl (by rw [ex126, ki_1]) (by decide) rfl (fun ls hl => ?_)
              refine lv_goto (tgt := 50) hx hb dX8_coinsOf_125 (by decide) ?_
              exact ih _ _ _ _ _ _ _ (lv_sub hl [4, 5, 6, 7, 8, 9, 2, 1, 0] rfl) hw hf
set_option maxHeartbeats 4000000 in
set_option maxRecDepth 100000 in
theorem k_X8_coinsOf {l : Launch} {D : va_G} {E : Nat → ClassId} {tU : Nat} {τ : Nat → Option XTy} {a0 : Nat} {x1 : Int32} {x2 : Int32} {l3 : Int64} {m0 mE : XMem} {rE : Int32} (hm : mT m0 = τ) (ta0 : τ a0 = some (.inl 8)) (hf : f_X8_coinsOf a0 x1 x2 l3 m0 = some (rE, mE)) : Ct l yX8_coinsOf cX8_coinsOf 18 ((Option.some FieldType.int)) 4 0 0 D E tU [.ref a0, .int x1, .int x2, .long l3] m0 (some (.int rE)) mE (mT mE = mT m0 ∧ True) := by
  subst hm
  refine Ct.of (by decide) (Nat.le_of_ble_eq_true rfl) (fun p e s m below meth c ls C hr hk hnm hl hw => ?_)
  have hx := C.1
  have hb := C.2.1
  have hl : lv_has ls 18 [(0, .ref a0), (1, .int x1), (2, .int x2), (3, .long l3)] := hl
  unfold f_X8_coinsOf at hf
  refine lv_aload_n hx hb dX8_coinsOf_0 rfl (lv_at hl 0 rfl) ?_
  refine lv_iload_n hx hb dX8_coinsOf_1 rfl (lv_at hl 1 rfl) ?_
  obtain ⟨l102, m101, cm101, hf⟩ := b2_el (o := f_X8_shareOf a0 x1 m0) hf
  refine x_callVl (As := [.int x1]) (rest := []) C hl.1 hw cb_X8_162 cv_X8_shareOf (k_X8_shareOf hw.2.2.2.2 ta0 cm101) ta0 rfl rfl (by decide) ⟨Nat.le_refl _, Nat.le_refl _⟩ rfl (Nat.le_of_ble_eq_true rfl) dX8_coinsOf_2 (fun H locs hw tl102 => ?_)
  refine lv_lstore (lv' := [(5, .long l102), (0, .ref a0), (1, .int x1), (2, .int x2), (3, .long l3)]) hx hb dX8_coinsOf_5 hl (by decide) rfl (fun ls hl => ?_)
  refine lv_lload hx hb dX8_coinsOf_7 (lv_at hl 0 rfl) ?_
  refine lv_lconst hx hb dX8_coinsOf_9 kl_0 ?_
  refine W.lcmp hx hb dX8_coinsOf_10 ?_
  refine lv_if_le (tgt := 20) hx hb dX8_coinsOf_11 (by decide) (fun c => ?_) (fun c => ?_)
  · have hf := ifp hf c
    refine lv_iconst hx hb dX8_coinsOf_20 ki_0 ?_
    exact x_retI C hr hk hw  hf (by decide) (by decide) dX8_coinsOf_21
  · have hf := ifn hf c
    refine lv_lload_n hx hb dX8_coinsOf_14 rfl (lv_at hl 4 rfl) ?_
    refine lv_lconst hx hb dX8_coinsOf_15 kl_0 ?_
    refine W.lcmp hx hb dX8_coinsOf_16 ?_
    refine lv_if_gt (tgt := 22) hx hb dX8_coinsOf_17 (by decide) (fun c => ?_) (fun c => ?_)
    · have hf := ifp hf c
      refine lv_iload_n hx hb dX8_coinsOf_22 rfl (lv_at hl 3 rfl) ?_
      refine lv_i2l (v := (Int32.toInt64 x2)) hx hb dX8_coinsOf_23 rfl ?_
      refine lv_lload hx hb dX8_coinsOf_24 (lv_at hl 0 rfl) ?_
      refine lv_lmul hx hb dX8_coinsOf_26 ?_
      refine lv_lload_n hx hb dX8_coinsOf_27 rfl (lv_at hl 4 rfl) ?_
      obtain ⟨g103, hf⟩ := gd_el hf
      refine lv_ldiv hx hb dX8_coinsOf_28 (nzL_ne g103) ?_
      refine lv_topl (fun l104 el104 => ?_)
      have hf := nm_el hf el104
      refine lv_lstore (lv' := [(7, .long l104), (5, .long l102), (0, .ref a0), (1, .int x1), (2, .int x2), (3, .long l3)]) hx hb dX8_coinsOf_29 hl (by decide) rfl (fun ls hl => ?_)
      refine lv_iload_n hx hb dX8_coinsOf_31 rfl (lv_at hl 4 rfl) ?_
      refine lv_i2l (v := (Int32.toInt64 x2)) hx hb dX8_coinsOf_32 rfl ?_
      refine lv_lload hx hb dX8_coinsOf_33 (lv_at hl 1 rfl) ?_
      refine lv_lmul hx hb dX8_coinsOf_35 ?_
      refine lv_lload_n hx hb dX8_coinsOf_36 rfl (lv_at hl 5 rfl) ?_
      obtain ⟨g105, hf⟩ := gd_el hf
      refine lv_lrem hx hb dX8_coinsOf_37 (nzL_ne g105) ?_
      refine lv_topl (fun l106 el106 => ?_)
      have hf := nm_el hf el106
      refine lv_lstore (lv' := [(9, .long l106), (7, .long l104), (5, .long l102), (0, .ref a0), (1, .int x1), (2, .int x2), (3, .long l3)]) hx hb dX8_coinsOf_38 hl (by decide) rfl (fun ls hl => ?_)
      refine lv_iload_n hx hb dX8_coinsOf_40 rfl (lv_at hl 5 rfl) ?_
      refine lv_i2l (v := (Int32.toInt64 x2)) hx hb dX8_coinsOf_41 rfl ?_
      refine lv_topl (fun l107 el107 => ?_)
      have hf := nm_el hf el107
      refine lv_lstore (lv' := [(11, .long l107), (9, .long l106), (7, .long l104), (5, .long l102), (0, .ref a0), (1, .int x1), (2, .int x2), (3, .long l3)]) hx hb dX8_coinsOf_42 hl (by decide) rfl (fun ls hl => ?_)
      refine lv_lconst hx hb dX8_coinsOf_44 kl_0 ?_
      refine lv_lstore (lv' := [(13, .long 0), (11, .long l107), (9, .long l106), (7, .long l104), (5, .long l102), (0, .ref a0), (1, .int x1), (2, .int x2), (3, .long l3)]) hx hb dX8_coinsOf_45 hl (by decide) rfl (fun ls hl => ?_)
      refine lv_iconst hx hb dX8_coinsOf_47 ki_0 ?_
      refine lv_istore (lv' := [(15, .int 0), (13, .long 0), (11, .long l107), (9, .long l106), (7, .long l104), (5, .long l102), (0, .ref a0), (1, .int x1), (2, .int x2), (3, .long l3)]) hx hb dX8_coinsOf_48 hl (by decide) rfl (fun ls hl => ?_)
      refine w_X8_coinsOf_h50 C hr hk hnm ta0 ?_ 2000 _ _ _ _ _ _ _ (lv_sub hl [6, 7, 8, 9, 4, 3, 2, 1, 0] rfl) hw hf
      intro l109 l110 m108 H locs ls hl hw hf
      refine lv_lload hx hb dX8_coinsOf_128 (lv_at hl 2 rfl) ?_
      refine lv_lload hx hb dX8_coinsOf_130 (lv_at hl 1 rfl) ?_
      refine W.lcmp hx hb dX8_coinsOf_132 ?_
      refine lv_if_ge (tgt := 143) hx hb dX8_coinsOf_133 (by decide) (fun c => ?_) (fun c => ?_)
      · have hf := ifp hf c
        refine lv_lload hx hb dX8_coinsOf_143 (lv_at hl 0 rfl) ?_
        refine lv_l2i (v := (Int64.toInt32 l104)) hx hb dX8_coinsOf_145 rfl ?_
        exact x_retI C hr hk hw  hf (by decide) (by decide) dX8_coinsOf_146
      · have hf := ifn hf c
        refine lv_lload hx hb dX8_coinsOf_136 (lv_at hl 0 rfl) ?_
        refine lv_lconst hx hb dX8_coinsOf_138 kl_1 ?_
        refine lv_ladd hx hb dX8_coinsOf_139 ?_
        refine lv_goto (tgt := 145) hx hb dX8_coinsOf_140 (by decide) ?_
        refine lv_l2i (v := (Int64.toInt32 (l104 + 1))) hx hb dX8_coinsOf_145 rfl ?_
        exact x_retI C hr hk hw  hf (by decide) (by decide) dX8_coinsOf_146
    · have hf := ifn hf c
      refine lv_iconst hx hb dX8_coinsOf_20 ki_0 ?_
      exact x_retI C hr hk hw  hf (by decide) (by decide) dX8_coinsOf_21
set_option maxHeartbeats 4000000 in
set_option maxRecDepth 100000 in
theorem k_X8_floorOf {l : Launch} {D : va_G} {E : Nat → ClassId} {tU : Nat} {τ : Nat → Option XTy} {a0 : Nat} {a1 : Nat} {x2 : Int32} {x3 : Int32} {m0 mE : XMem} {rE : Int32} (hm : mT m0 = τ) (ta0 : τ a0 = some (.inl 8)) (ta1 : τ a1 = some (.inl 0)) (hf : f_X8_floorOf a0 a1 x2 x3 m0 = some (rE, mE)) : Ct l yX8_floorOf cX8_floorOf 4 ((Option.some FieldType.int)) 4 0 0 D E tU [.ref a0, .ref a1, .int x2, .int x3] m0 (some (.int rE)) mE (mT mE = mT m0 ∧ True) := by
  subst hm
  refine Ct.of (by decide) (Nat.le_of_ble_eq_true rfl) (fun p e s m below meth c ls C hr hk hnm hl hw => ?_)
  have hx := C.1
  have hb := C.2.1
  have hl : lv_has ls 4 [(0, .ref a0), (1, .ref a1), (2, .int x2), (3, .int x3)] := hl
  unfold f_X8_floorOf at hf
  refine lv_aload_n hx hb dX8_floorOf_0 rfl (lv_at hl 0 rfl) ?_
  refine x_getQ C hw fa_X8_27 (Or.inl ⟨_, rfl⟩) ta0 dX8_floorOf_1 ?_
  refine lv_topq (fun o101 eo101 => ?_)
  have hf := nm_el hf eo101
  have to101 : ∀ b, o101 = some b → (mT m0) b = some (.inl 6) := fun b h => xo_keep hw ta0 5 b (eo101.symm.trans h)
  cases o101 with
  | none =>
    have hf := oc_n hf
    refine lv_ifnonnullN hx hb dX8_floorOf_4 ?_
    refine lv_iconst hx hb dX8_floorOf_7 ki_0 ?_
    refine lv_goto (tgt := 29) hx hb dX8_floorOf_8 (by decide) ?_
    exact x_retI C hr hk hw  hf (by decide) (by decide) dX8_floorOf_29
  | some b102 =>
    have hf := oc_s hf
    have tb102 := to101 b102 rfl
    refine lv_ifnonnull (tgt := 11) hx hb dX8_floorOf_4 (by decide) ?_
    refine lv_aload_n hx hb dX8_floorOf_11 rfl (lv_at hl 0 rfl) ?_
    obtain ⟨b103, eb103, hf⟩ := fo_el hf
    refine x_getR C hw fa_X8_55 (Or.inl ⟨_, rfl⟩) ta0 eb103 dX8_floorOf_12 (fun tb103 => ?_)
    have tb103 : (mT m0) b103 = some (.inl 7) := tb103
    refine lv_aload_n hx hb dX8_floorOf_15 rfl (lv_at hl 0 rfl) ?_
    obtain ⟨b104, eb104, hf⟩ := fo_el hf
    refine x_getR C hw fa_X8_27 (Or.inl ⟨_, rfl⟩) ta0 eb104 dX8_floorOf_16 (fun tb104 => ?_)
    have tb104 : (mT m0) b104 = some (.inl 6) := tb104
    refine lv_aload_n hx hb dX8_floorOf_19 rfl (lv_at hl 1 rfl) ?_
    refine lv_aload_n hx hb dX8_floorOf_20 rfl (lv_at hl 1 rfl) ?_
    obtain ⟨r106, m105, cm105, hf⟩ := b2_el (o := f_X0_warmth a1 m0) hf
    refine x_callVi (As := []) (rest := [.ref a1, .ref b104, .ref b103]) C hl.1 hw cb_X8_80 cv_X0_warmth (k_X0_warmth hw.2.2.2.2 ta1 cm105) ta1 rfl rfl (by decide) ⟨Nat.le_refl _, Nat.le_refl _⟩ rfl (Nat.le_of_ble_eq_true rfl) dX8_floorOf_21 (fun H locs hw tr106 => ?_)
    refine lv_iload_n hx hb dX8_floorOf_24 rfl (lv_at hl 3 rfl) ?_
    refine lv_iload_n hx hb dX8_floorOf_25 rfl (lv_at hl 2 rfl) ?_
    obtain ⟨r108, m107, cm107, hf⟩ := b2_el (o := f_X7_worked b103 b104 a1 r106 x3 x2 m105) hf
    refine x_callVi (As := [.ref b104, .ref a1, .int r106, .int x3, .int x2]) (rest := []) C hl.1 hw cb_X8_84 cv_X7_worked (k_X7_worked hw.2.2.2.2 tb103 tb104 ta1 cm107) tb103 rfl rfl (by decide) ⟨Nat.le_refl _, Nat.le_refl _⟩ rfl (Nat.le_of_ble_eq_true rfl) dX8_floorOf_26 (fun H locs hw tr108 => ?_)
    exact x_retI C hr hk hw  hf (by decide) (by decide) dX8_floorOf_29
set_option maxHeartbeats 4000000 in
set_option maxRecDepth 100000 in
theorem k_X8_lawAt {l : Launch} {D : va_G} {E : Nat → ClassId} {tU : Nat} {τ : Nat → Option XTy} {a0 : Nat} {x1 : Int32} {m0 mE : XMem} {rE : Option Nat} (hm : mT m0 = τ) (ta0 : τ a0 = some (.inl 8)) (hf : f_X8_lawAt a0 x1 m0 = some (rE, mE)) : Ct l yX8_lawAt cX8_lawAt 2 ((Option.some (FieldType.object "WarmGlass$Law"))) 1 0 0 D E tU [.ref a0, .int x1] m0 (some (va_rf rE)) mE (mT mE = mT m0 ∧ (∀ b, rE = some b → mT m0 b = some (.inl 2))) := by
  subst hm
  refine Ct.of (by decide) (Nat.le_of_ble_eq_true rfl) (fun p e s m below meth c ls C hr hk hnm hl hw => ?_)
  have hx := C.1
  have hb := C.2.1
  have hl : lv_has ls 2 [(0, .ref a0), (1, .int x1)] := hl
  unfold f_X8_lawAt at hf
  refine lv_iload_n hx hb dX8_lawAt_0 rfl (lv_at hl 1 rfl) ?_
  refine lv_if_lt (tgt := 21) hx hb dX8_lawAt_1 (by decide) (fun c => ?_) (fun c => ?_)
  · have hf := ifp hf c
    refine lv_null hx hb dX8_lawAt_21 ?_
    refine lv_goto (tgt := 31) hx hb dX8_lawAt_22 (by decide) ?_
    exact x_retQ (o := none) C hr hk hw  (fun b h => by cases h) hf (by decide) (by decide) dX8_lawAt_31
  · have hf := ifn hf c
    refine lv_iload_n hx hb dX8_lawAt_4 rfl (lv_at hl 1 rfl) ?_
    refine lv_aload_n hx hb dX8_lawAt_5 rfl (lv_at hl 0 rfl) ?_
    refine x_getI C hw fa_X8_18 ta0 dX8_lawAt_6 ?_
    refine lv_icmp_ge (tgt := 21) hx hb dX8_lawAt_9 (by decide) (fun c => ?_) (fun c => ?_)
    · have hf := ifp hf c
      refine lv_null hx hb dX8_lawAt_21 ?_
      refine lv_goto (tgt := 31) hx hb dX8_lawAt_22 (by decide) ?_
      exact x_retQ (o := none) C hr hk hw  (fun b h => by cases h) hf (by decide) (by decide) dX8_lawAt_31
    · have hf := ifn hf c
      refine lv_iload_n hx hb dX8_lawAt_12 rfl (lv_at hl 1 rfl) ?_
      refine lv_aload_n hx hb dX8_lawAt_13 rfl (lv_at hl 0 rfl) ?_
      obtain ⟨b101, eb101, hf⟩ := fo_el hf
      refine x_getR C hw fa_X8_42 (Or.inr ⟨_, rfl⟩) ta0 eb101 dX8_lawAt_14 (fun tb101 => ?_)
      have tb101 : ∃ n, (mT m0) b101 = some (.inr (4, n)) := tb101
      refine x_alen (ek := 4) C hw rfl tb101 dX8_lawAt_17 ?_
      refine lv_icmp_lt (tgt := 25) hx hb dX8_lawAt_18 (by decide) (fun c => ?_) (fun c => ?_)
      · have hf := ifp hf c
        refine lv_aload_n hx hb dX8_lawAt_25 rfl (lv_at hl 0 rfl) ?_
        obtain ⟨b102, eb102, hf⟩ := fo_el hf
        refine x_getR C hw fa_X8_42 (Or.inr ⟨_, rfl⟩) ta0 eb102 dX8_lawAt_26 (fun tb102 => ?_)
        have tb102 : ∃ n, (mT m0) b102 = some (.inr (4, n)) := tb102
        refine lv_iload_n hx hb dX8_lawAt_29 rfl (lv_at hl 1 rfl) ?_
        obtain ⟨g103, hf⟩ := gd_el hf
        refine x_aald (ek := 4) C hw rfl (by decide) tb102 g103 dX8_lawAt_30 (fun to104 => ?_)
        refine lv_topq (fun o104 eo104 => ?_)
        have hf := nm_el hf eo104
        have to104 : ∀ b, o104 = some b → (mT m0) b = some (.inl 2) := fun b h => to104 b (eo104.symm.trans h)
        exact x_retQ (o := o104) C hr hk hw  to104 hf (by decide) (by decide) dX8_lawAt_31
      · have hf := ifn hf c
        refine lv_null hx hb dX8_lawAt_21 ?_
        refine lv_goto (tgt := 31) hx hb dX8_lawAt_22 (by decide) ?_
        exact x_retQ (o := none) C hr hk hw  (fun b h => by cases h) hf (by decide) (by decide) dX8_lawAt_31
set_option maxHeartbeats 4000000 in
set_option maxRecDepth 100000 in
theorem k_X8_makesBy {l : Launch} {D : va_G} {E : Nat → ClassId} {tU : Nat} {τ : Nat → Option XTy} {a0 : Nat} {x1 : Int32} {a2 : Nat} {x3 : Int32} {x4 : Int32} {m0 mE : XMem} {rE : Int32} (hm : mT m0 = τ) (ta0 : τ a0 = some (.inl 8)) (ta2 : τ a2 = some (.inl 0)) (hf : f_X8_makesBy a0 x1 a2 x3 x4 m0 = some (rE, mE)) : Ct l yX8_makesBy cX8_makesBy 7 ((Option.some FieldType.int)) 4 0 0 D E tU [.ref a0, .int x1, .ref a2, .int x3, .int x4] m0 (some (.int rE)) mE (mT mE = mT m0 ∧ True) := by
  subst hm
  refine Ct.of (by decide) (Nat.le_of_ble_eq_true rfl) (fun p e s m below meth c ls C hr hk hnm hl hw => ?_)
  have hx := C.1
  have hb := C.2.1
  have hl : lv_has ls 7 [(0, .ref a0), (1, .int x1), (2, .ref a2), (3, .int x3), (4, .int x4)] := hl
  unfold f_X8_makesBy at hf
  refine lv_aload_n hx hb dX8_makesBy_0 rfl (lv_at hl 0 rfl) ?_
  refine lv_iload_n hx hb dX8_makesBy_1 rfl (lv_at hl 1 rfl) ?_
  obtain ⟨o102, m101, cm101, hf⟩ := b2_el (o := f_X8_lawAt a0 x1 m0) hf
  have hmp := hw.2.2.2.2
  refine x_callVq (As := [.int x1]) (rest := []) C hl.1 hw cb_X8_69 cv_X8_lawAt (k_X8_lawAt hw.2.2.2.2 ta0 cm101) ta0 rfl rfl (by decide) ⟨Nat.le_refl _, Nat.le_refl _⟩ rfl (Nat.le_of_ble_eq_true rfl) dX8_makesBy_2 (fun H locs hw to102 => ?_)
  have to102 : ∀ b, o102 = some b → (mT m0) b = some (.inl 2) := fun b h => by have q := to102 b h; rw [hmp] at q; exact q
  refine x_astoreQ (lv' := [(5, va_rf o102), (0, .ref a0), (1, .int x1), (2, .ref a2), (3, .int x3), (4, .int x4)]) hx hb dX8_makesBy_5 hl (by decide) rfl (fun ls hl => ?_)
  refine x_aloadQ hx hb dX8_makesBy_7 (lv_at hl 0 rfl) ?_
  cases o102 with
  | none =>
    have hf := oc_n hf
    refine lv_ifnonnullN hx hb dX8_makesBy_9 ?_
    refine lv_iconst hx hb dX8_makesBy_12 ki_0 ?_
    exact x_retI C hr hk hw  hf (by decide) (by decide) dX8_makesBy_13
  | some b103 =>
    have hf := oc_s hf
    have tb103 := to102 b103 rfl
    refine lv_ifnonnull (tgt := 14) hx hb dX8_makesBy_9 (by decide) ?_
    refine lv_aload_n hx hb dX8_makesBy_14 rfl (lv_at hl 1 rfl) ?_
    obtain ⟨b104, eb104, hf⟩ := fo_el hf
    refine x_getR C hw fa_X8_55 (Or.inl ⟨_, rfl⟩) ta0 eb104 dX8_makesBy_15 (fun tb104 => ?_)
    have tb104 : (mT m0) b104 = some (.inl 7) := tb104
    refine lv_aload hx hb dX8_makesBy_18 (lv_at hl 0 rfl) ?_
    obtain ⟨b105, eb105, hf⟩ := fo_el hf
    refine x_getR C hw fa_X8_91 (Or.inl ⟨_, rfl⟩) tb103 eb105 dX8_makesBy_20 (fun tb105 => ?_)
    have tb105 : (mT m0) b105 = some (.inl 6) := tb105
    refine lv_aload_n hx hb dX8_makesBy_23 rfl (lv_at hl 3 rfl) ?_
    refine lv_aload_n hx hb dX8_makesBy_24 rfl (lv_at hl 3 rfl) ?_
    obtain ⟨r107, m106, cm106, hf⟩ := b2_el (o := f_X0_warmth a2 m101) hf
    refine x_callVi (As := []) (rest := [.ref a2, .ref b105, .ref b104]) C hl.1 hw cb_X8_80 cv_X0_warmth (k_X0_warmth hw.2.2.2.2 ta2 cm106) ta2 rfl rfl (by decide) ⟨Nat.le_refl _, Nat.le_refl _⟩ rfl (Nat.le_of_ble_eq_true rfl) dX8_makesBy_25 (fun H locs hw tr107 => ?_)
    refine lv_iload hx hb dX8_makesBy_28 (lv_at hl 5 rfl) ?_
    refine lv_iload_n hx hb dX8_makesBy_30 rfl (lv_at hl 4 rfl) ?_
    obtain ⟨r109, m108, cm108, hf⟩ := b2_el (o := f_X7_worked b104 b105 a2 r107 x4 x3 m106) hf
    refine x_callVi (As := [.ref b105, .ref a2, .int r107, .int x4, .int x3]) (rest := []) C hl.1 hw cb_X8_84 cv_X7_worked (k_X7_worked hw.2.2.2.2 tb104 tb105 ta2 cm108) tb104 rfl rfl (by decide) ⟨Nat.le_refl _, Nat.le_refl _⟩ rfl (Nat.le_of_ble_eq_true rfl) dX8_makesBy_31 (fun H locs hw tr109 => ?_)
    refine lv_istore (lv' := [(6, .int r109), (5, .ref b103), (0, .ref a0), (1, .int x1), (2, .ref a2), (3, .int x3), (4, .int x4)]) hx hb dX8_makesBy_34 hl (by decide) rfl (fun ls hl => ?_)
    refine lv_iconst hx hb dX8_makesBy_36 ki_0 ?_
    refine lv_sipush hx hb dX8_makesBy_37 ks_9999 ?_
    refine lv_iload hx hb dX8_makesBy_40 (lv_at hl 0 rfl) ?_
    refine x_mmin C hl.1 km_X8_94 (by decide) (Nat.le_of_ble_eq_true rfl) (by decide) (Nat.zero_le _) (Nat.zero_le _) dX8_makesBy_42 ?_
    refine lv_topi (fun x110 ex110 => ?_)
    have hf := nm_el hf ex110
    refine x_mmax C hl.1 km_X8_100 (by decide) (Nat.le_of_ble_eq_true rfl) (by decide) (Nat.zero_le _) (Nat.zero_le _) dX8_makesBy_45 ?_
    refine lv_topi (fun x111 ex111 => ?_)
    have hf := nm_el hf ex111
    exact x_retI C hr hk hw  hf (by decide) (by decide) dX8_makesBy_48
set_option maxHeartbeats 4000000 in
set_option maxRecDepth 100000 in
theorem k_X8_warm {l : Launch} {D : va_G} {E : Nat → ClassId} {tU : Nat} {τ : Nat → Option XTy} {a0 : Nat} {a1 : Nat} {x2 : Int32} {x3 : Int32} {x4 : Int32} {m0 mE : XMem} (hm : mT m0 = τ) (ta0 : τ a0 = some (.inl 8)) (ta1 : τ a1 = some (.inl 0)) (hf : f_X8_warm a0 a1 x2 x3 x4 m0 = some mE) : Ct l yX8_warm cX8_warm 5 ((Option.none : Option FieldType)) 5 0 0 D E tU [.ref a0, .ref a1, .int x2, .int x3, .int x4] m0 (none) mE (mT mE = mT m0 ∧ True) := by
  subst hm
  refine Ct.of (by decide) (Nat.le_of_ble_eq_true rfl) (fun p e s m below meth c ls C hr hk hnm hl hw => ?_)
  have hx := C.1
  have hb := C.2.1
  have hl : lv_has ls 5 [(0, .ref a0), (1, .ref a1), (2, .int x2), (3, .int x3), (4, .int x4)] := hl
  unfold f_X8_warm at hf
  refine lv_aload_n hx hb dX8_warm_0 rfl (lv_at hl 1 rfl) ?_
  refine lv_aload_n hx hb dX8_warm_1 rfl (lv_at hl 0 rfl) ?_
  refine lv_iload_n hx hb dX8_warm_2 rfl (lv_at hl 3 rfl) ?_
  refine lv_aload_n hx hb dX8_warm_3 rfl (lv_at hl 1 rfl) ?_
  refine lv_iload_n hx hb dX8_warm_4 rfl (lv_at hl 2 rfl) ?_
  refine lv_iload hx hb dX8_warm_5 (lv_at hl 4 rfl) ?_
  obtain ⟨r102, m101, cm101, hf⟩ := b2_el (o := f_X8_makesBy a0 x3 a1 x2 x4 m0) hf
  refine x_callVi (As := [.int x3, .ref a1, .int x2, .int x4]) (rest := [.ref a1]) C hl.1 hw cb_X8_106 cv_X8_makesBy (k_X8_makesBy hw.2.2.2.2 ta0 ta1 cm101) ta0 rfl rfl (by decide) ⟨Nat.le_refl _, Nat.le_refl _⟩ rfl (Nat.le_of_ble_eq_true rfl) dX8_warm_7 (fun H locs hw tr102 => ?_)
  obtain ⟨m103, cm103, hf⟩ := b1_el (o := f_X0_passHour a1 r102 m101) hf
  refine x_callVv (As := [.int r102]) (rest := []) C hl.1 hw cb_X8_110 cv_X0_passHour (k_X0_passHour hw.2.2.2.2 ta1 cm103) ta1 rfl rfl (by decide) ⟨Nat.le_refl _, Nat.le_refl _⟩ rfl (Nat.le_of_ble_eq_true rfl) dX8_warm_10 (fun H locs hw tm103 => ?_)
  exact x_ret C hr hk hw  hf (by decide) (by decide) dX8_warm_13
