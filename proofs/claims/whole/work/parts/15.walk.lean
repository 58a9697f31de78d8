set_option maxHeartbeats 4000000 in
set_option maxRecDepth 100000 in
theorem w_X10_look_j106 {p : Program} {l : Launch} {e : Env} {s : State} {m : MethodId} {args : Array Value} {below : List Frame} {meth : Method} {c : Code} {D : va_G} {E : Nat → ClassId} {tU : Nat} {m0 mE : XMem} {rE : Int32} (C : Cx p s m args c cX10_look 11 RX10 D E (Am m0) tU) (hr : meth.sig.returnType = ((Option.some FieldType.int))) (hk : meth.locks = false) (hnm : meth.name = yX10_look.name) {l5 : Int64} {l7 : Int64} {l9 : Int64} {mu : XMem} {H : Heap} {locs : List Loc} {ls : Array Slot}  (hl : lv_has ls 11 [(5, .long l5), (7, .long l7), (9, .long l9)]) (hw : Wd D E (Am m0) s (mT m0) mu H locs) (hf : f_X10_look_j106 l5 l7 l9 mu = some (rE, mE)) : W p l e (rmN 10 0 0) s m args below meth c H locs 0 0 (MQ below (XQ D E (Am m0) (some (.int rE)) mE (mT mE = mT m0 ∧ True)) args s 0 0 (Am m0)) (F0 m 106 ls []) := by
  have hx := C.1
  have hb := C.2.1
  unfold f_X10_look_j106 at hf
  refine lv_lload hx hb dX10_look_106 (lv_at hl 0 rfl) ?_
  refine lv_lload hx hb dX10_look_108 (lv_at hl 1 rfl) ?_
  refine W.lcmp hx hb dX10_look_110 ?_
  refine lv_if_lt (tgt := 126) hx hb dX10_look_111 (by decide) (fun c => ?_) (fun c => ?_)
  · have hf := ifp hf c
    refine lv_lload hx hb dX10_look_126 (lv_at hl 1 rfl) ?_
    refine lv_lload hx hb dX10_look_128 (lv_at hl 2 rfl) ?_
    refine W.lcmp hx hb dX10_look_130 ?_
    refine lv_if_lt (tgt := 138) hx hb dX10_look_131 (by decide) (fun c => ?_) (fun c => ?_)
    · have hf := ifp hf c
      refine lv_iconst hx hb dX10_look_138 ki_2 ?_
      exact x_retI C hr hk hw  hf (by decide) (by decide) dX10_look_139
    · have hf := ifn hf c
      refine lv_iconst hx hb dX10_look_134 ki_1 ?_
      refine lv_goto (tgt := 139) hx hb dX10_look_135 (by decide) ?_
      exact x_retI C hr hk hw  hf (by decide) (by decide) dX10_look_139
  · have hf := ifn hf c
    refine lv_lload hx hb dX10_look_114 (lv_at hl 0 rfl) ?_
    refine lv_lload hx hb dX10_look_116 (lv_at hl 2 rfl) ?_
    refine W.lcmp hx hb dX10_look_118 ?_
    refine lv_if_lt (tgt := 126) hx hb dX10_look_119 (by decide) (fun c => ?_) (fun c => ?_)
    · have hf := ifp hf c
      refine lv_lload hx hb dX10_look_126 (lv_at hl 1 rfl) ?_
      refine lv_lload hx hb dX10_look_128 (lv_at hl 2 rfl) ?_
      refine W.lcmp hx hb dX10_look_130 ?_
      refine lv_if_lt (tgt := 138) hx hb dX10_look_131 (by decide) (fun c => ?_) (fun c => ?_)
      · have hf := ifp hf c
        refine lv_iconst hx hb dX10_look_138 ki_2 ?_
        exact x_retI C hr hk hw  hf (by decide) (by decide) dX10_look_139
      · have hf := ifn hf c
        refine lv_iconst hx hb dX10_look_134 ki_1 ?_
        refine lv_goto (tgt := 139) hx hb dX10_look_135 (by decide) ?_
        exact x_retI C hr hk hw  hf (by decide) (by decide) dX10_look_139
    · have hf := ifn hf c
      refine lv_iconst hx hb dX10_look_122 ki_0 ?_
      refine lv_goto (tgt := 139) hx hb dX10_look_123 (by decide) ?_
      exact x_retI C hr hk hw  hf (by decide) (by decide) dX10_look_139
set_option maxHeartbeats 4000000 in
set_option maxRecDepth 100000 in
theorem k_X10_look {l : Launch} {D : va_G} {E : Nat → ClassId} {tU : Nat} {τ : Nat → Option XTy} {a0 : Nat} {x1 : Int32} {x2 : Int32} {x3 : Int32} {x4 : Int32} {m0 mE : XMem} {rE : Int32} (hm : mT m0 = τ) (ta0 : τ a0 = some (.inl 10)) (hf : f_X10_look a0 x1 x2 x3 x4 m0 = some (rE, mE)) : Ct l yX10_look cX10_look 11 ((Option.some FieldType.int)) 10 0 0 D E tU [.ref a0, .int x1, .int x2, .int x3, .int x4] m0 (some (.int rE)) mE (mT mE = mT m0 ∧ True) := by
  subst hm
  refine Ct.of (by decide) (Nat.le_of_ble_eq_true rfl) (fun p e s m below meth c ls C hr hk hnm hl hw => ?_)
  have hx := C.1
  have hb := C.2.1
  have hl : lv_has ls 11 [(0, .ref a0), (1, .int x1), (2, .int x2), (3, .int x3), (4, .int x4)] := hl
  unfold f_X10_look at hf
  refine lv_aload_n hx hb dX10_look_0 rfl (lv_at hl 0 rfl) ?_
  refine lv_iload_n hx hb dX10_look_1 rfl (lv_at hl 1 rfl) ?_
  obtain ⟨r102, m101, cm101, hf⟩ := b2_el (o := f_X10_isCell a0 x1 m0) hf
  refine x_callVi (As := [.int x1]) (rest := []) C hl.1 hw cb_X10_76 cv_X10_isCell (k_X10_isCell hw.2.2.2.2 ta0 cm101) ta0 rfl rfl (by decide) ⟨Nat.le_refl _, Nat.le_refl _⟩ rfl (Nat.le_of_ble_eq_true rfl) dX10_look_2 (fun H locs hw tr102 => ?_)
  refine lv_if_eq (tgt := 35) hx hb dX10_look_5 (by decide) (fun c => ?_) (fun c => ?_)
  · have hf := ifp hf c
    refine lv_aload_n hx hb dX10_look_35 rfl (lv_at hl 0 rfl) ?_
    refine lv_ldc hx hb C.2.2.2.1 (C.2.2.2.2.1 _ ki_X10_61) dX10_look_36 ?_
    obtain ⟨r104, m103, cm103, hf⟩ := b2_el (o := f_X10_finds a0 (-1000000001) m101) hf
    refine x_callVi (As := [.int (-1000000001)]) (rest := []) C hl.1 hw cb_X10_67 cv_X10_finds (k_X10_finds hw.2.2.2.2 ta0 cm103) ta0 rfl rfl (by decide) ⟨Nat.le_refl _, Nat.le_refl _⟩ rfl (Nat.le_of_ble_eq_true rfl) dX10_look_38 (fun H locs hw tr104 => ?_)
    exact x_retI C hr hk hw  hf (by decide) (by decide) dX10_look_41
  · have hf := ifn hf c
    refine lv_aload_n hx hb dX10_look_8 rfl (lv_at hl 0 rfl) ?_
    refine lv_iload_n hx hb dX10_look_9 rfl (lv_at hl 2 rfl) ?_
    obtain ⟨r106, m105, cm105, hf⟩ := b2_el (o := f_X10_isLawOrNone a0 x2 m101) hf
    refine x_callVi (As := [.int x2]) (rest := []) C hl.1 hw cb_X10_187 cv_X10_isLawOrNone (k_X10_isLawOrNone hw.2.2.2.2 ta0 cm105) ta0 rfl rfl (by decide) ⟨Nat.le_refl _, Nat.le_refl _⟩ rfl (Nat.le_of_ble_eq_true rfl) dX10_look_10 (fun H locs hw tr106 => ?_)
    refine lv_if_eq (tgt := 35) hx hb dX10_look_13 (by decide) (fun c => ?_) (fun c => ?_)
    · have hf := ifp hf c
      refine lv_aload_n hx hb dX10_look_35 rfl (lv_at hl 0 rfl) ?_
      refine lv_ldc hx hb C.2.2.2.1 (C.2.2.2.2.1 _ ki_X10_61) dX10_look_36 ?_
      obtain ⟨r108, m107, cm107, hf⟩ := b2_el (o := f_X10_finds a0 (-1000000001) m105) hf
      refine x_callVi (As := [.int (-1000000001)]) (rest := []) C hl.1 hw cb_X10_67 cv_X10_finds (k_X10_finds hw.2.2.2.2 ta0 cm107) ta0 rfl rfl (by decide) ⟨Nat.le_refl _, Nat.le_refl _⟩ rfl (Nat.le_of_ble_eq_true rfl) dX10_look_38 (fun H locs hw tr108 => ?_)
      exact x_retI C hr hk hw  hf (by decide) (by decide) dX10_look_41
    · have hf := ifn hf c
      refine lv_aload_n hx hb dX10_look_16 rfl (lv_at hl 0 rfl) ?_
      refine lv_iload_n hx hb dX10_look_17 rfl (lv_at hl 3 rfl) ?_
      obtain ⟨r110, m109, cm109, hf⟩ := b2_el (o := f_X10_isLawOrNone a0 x3 m105) hf
      refine x_callVi (As := [.int x3]) (rest := []) C hl.1 hw cb_X10_187 cv_X10_isLawOrNone (k_X10_isLawOrNone hw.2.2.2.2 ta0 cm109) ta0 rfl rfl (by decide) ⟨Nat.le_refl _, Nat.le_refl _⟩ rfl (Nat.le_of_ble_eq_true rfl) dX10_look_18 (fun H locs hw tr110 => ?_)
      refine lv_if_eq (tgt := 35) hx hb dX10_look_21 (by decide) (fun c => ?_) (fun c => ?_)
      · have hf := ifp hf c
        refine lv_aload_n hx hb dX10_look_35 rfl (lv_at hl 0 rfl) ?_
        refine lv_ldc hx hb C.2.2.2.1 (C.2.2.2.2.1 _ ki_X10_61) dX10_look_36 ?_
        obtain ⟨r112, m111, cm111, hf⟩ := b2_el (o := f_X10_finds a0 (-1000000001) m109) hf
        refine x_callVi (As := [.int (-1000000001)]) (rest := []) C hl.1 hw cb_X10_67 cv_X10_finds (k_X10_finds hw.2.2.2.2 ta0 cm111) ta0 rfl rfl (by decide) ⟨Nat.le_refl _, Nat.le_refl _⟩ rfl (Nat.le_of_ble_eq_true rfl) dX10_look_38 (fun H locs hw tr112 => ?_)
        exact x_retI C hr hk hw  hf (by decide) (by decide) dX10_look_41
      · have hf := ifn hf c
        refine lv_iload hx hb dX10_look_24 (lv_at hl 4 rfl) ?_
        refine lv_iconst hx hb dX10_look_26 ki_1 ?_
        refine lv_bipush hx hb dX10_look_27 kb_100 ?_
        obtain ⟨r114, m113, cm113, hf⟩ := b2_el (o := f_X10_within x4 1 100 m109) hf
        refine x_callSi (As := [.int x4, .int 1, .int 100]) (rest := []) C hl.1 hw cb_X10_62 cs_X10_within (k_X10_within hw.2.2.2.2  cm113) rfl (by decide) ⟨Nat.le_refl _, Nat.le_refl _⟩ rfl (Nat.le_of_ble_eq_true rfl) dX10_look_29 (fun H locs hw tr114 => ?_)
        refine lv_if_ne (tgt := 42) hx hb dX10_look_32 (by decide) (fun c => ?_) (fun c => ?_)
        · have hf := ifn hf c
          refine lv_aload_n hx hb dX10_look_42 rfl (lv_at hl 0 rfl) ?_
          refine lv_iload_n hx hb dX10_look_43 rfl (lv_at hl 1 rfl) ?_
          refine lv_iload_n hx hb dX10_look_44 rfl (lv_at hl 2 rfl) ?_
          refine lv_iload_n hx hb dX10_look_45 rfl (lv_at hl 3 rfl) ?_
          refine lv_iload hx hb dX10_look_46 (lv_at hl 4 rfl) ?_
          refine lv_iconst hx hb dX10_look_48 ki_1 ?_
          obtain ⟨l116, m115, cm115, hf⟩ := b2_el (o := f_X10_apart a0 x1 x2 x3 x4 1 m113) hf
          refine x_callVl (As := [.int x1, .int x2, .int x3, .int x4, .int 1]) (rest := []) C hl.1 hw cb_X10_231 cv_X10_apart (k_X10_apart hw.2.2.2.2 ta0 cm115) ta0 rfl rfl (by decide) ⟨Nat.le_refl _, Nat.le_refl _⟩ rfl (Nat.le_of_ble_eq_true rfl) dX10_look_49 (fun H locs hw tl116 => ?_)
          refine lv_lstore (lv' := [(5, .long l116), (0, .ref a0), (1, .int x1), (2, .int x2), (3, .int x3), (4, .int x4)]) hx hb dX10_look_52 hl (by decide) rfl (fun ls hl => ?_)
          refine lv_aload_n hx hb dX10_look_54 rfl (lv_at hl 1 rfl) ?_
          refine lv_iload_n hx hb dX10_look_55 rfl (lv_at hl 2 rfl) ?_
          refine lv_iload_n hx hb dX10_look_56 rfl (lv_at hl 3 rfl) ?_
          refine lv_iload_n hx hb dX10_look_57 rfl (lv_at hl 4 rfl) ?_
          refine lv_iload hx hb dX10_look_58 (lv_at hl 5 rfl) ?_
          refine lv_iconst hx hb dX10_look_60 ki_2 ?_
          obtain ⟨l118, m117, cm117, hf⟩ := b2_el (o := f_X10_apart a0 x1 x2 x3 x4 2 m115) hf
          refine x_callVl (As := [.int x1, .int x2, .int x3, .int x4, .int 2]) (rest := []) C hl.1 hw cb_X10_231 cv_X10_apart (k_X10_apart hw.2.2.2.2 ta0 cm117) ta0 rfl rfl (by decide) ⟨Nat.le_refl _, Nat.le_refl _⟩ rfl (Nat.le_of_ble_eq_true rfl) dX10_look_61 (fun H locs hw tl118 => ?_)
          refine lv_lstore (lv' := [(7, .long l118), (5, .long l116), (0, .ref a0), (1, .int x1), (2, .int x2), (3, .int x3), (4, .int x4)]) hx hb dX10_look_64 hl (by decide) rfl (fun ls hl => ?_)
          refine lv_aload_n hx hb dX10_look_66 rfl (lv_at hl 2 rfl) ?_
          refine lv_iload_n hx hb dX10_look_67 rfl (lv_at hl 3 rfl) ?_
          refine lv_iload_n hx hb dX10_look_68 rfl (lv_at hl 4 rfl) ?_
          refine lv_iload_n hx hb dX10_look_69 rfl (lv_at hl 5 rfl) ?_
          refine lv_iload hx hb dX10_look_70 (lv_at hl 6 rfl) ?_
          refine lv_iconst hx hb dX10_look_72 ki_0 ?_
          obtain ⟨l120, m119, cm119, hf⟩ := b2_el (o := f_X10_apart a0 x1 x2 x3 x4 0 m117) hf
          refine x_callVl (As := [.int x1, .int x2, .int x3, .int x4, .int 0]) (rest := []) C hl.1 hw cb_X10_231 cv_X10_apart (k_X10_apart hw.2.2.2.2 ta0 cm119) ta0 rfl rfl (by decide) ⟨Nat.le_refl _, Nat.le_refl _⟩ rfl (Nat.le_of_ble_eq_true rfl) dX10_look_73 (fun H locs hw tl120 => ?_)
          refine lv_lstore (lv' := [(9, .long l120), (7, .long l118), (5, .long l116), (0, .ref a0), (1, .int x1), (2, .int x2), (3, .int x3), (4, .int x4)]) hx hb dX10_look_76 hl (by decide) rfl (fun ls hl => ?_)
          refine lv_lload hx hb dX10_look_78 (lv_at hl 2 rfl) ?_
          refine lv_lconst hx hb dX10_look_80 kl_0 ?_
          refine W.lcmp hx hb dX10_look_81 ?_
          refine lv_if_ne (tgt := 106) hx hb dX10_look_82 (by decide) (fun c => ?_) (fun c => ?_)
          · have hf := ifn hf c
            exact w_X10_look_j106 C hr hk hnm  (lv_sub hl [2, 1, 0] rfl) hw hf
          · have hf := ifp hf c
            refine lv_lload hx hb dX10_look_85 (lv_at hl 1 rfl) ?_
            refine lv_lconst hx hb dX10_look_87 kl_0 ?_
            refine W.lcmp hx hb dX10_look_88 ?_
            refine lv_if_ne (tgt := 106) hx hb dX10_look_89 (by decide) (fun c => ?_) (fun c => ?_)
            · have hf := ifn hf c
              exact w_X10_look_j106 C hr hk hnm  (lv_sub hl [2, 1, 0] rfl) hw hf
            · have hf := ifp hf c
              refine lv_lload hx hb dX10_look_92 (lv_at hl 0 rfl) ?_
              refine lv_lconst hx hb dX10_look_94 kl_0 ?_
              refine W.lcmp hx hb dX10_look_95 ?_
              refine lv_if_ne (tgt := 106) hx hb dX10_look_96 (by decide) (fun c => ?_) (fun c => ?_)
              · have hf := ifn hf c
                exact w_X10_look_j106 C hr hk hnm  (lv_sub hl [2, 1, 0] rfl) hw hf
              · have hf := ifp hf c
                refine lv_aload_n hx hb dX10_look_99 rfl (lv_at hl 3 rfl) ?_
                refine lv_ldc hx hb C.2.2.2.1 (C.2.2.2.2.1 _ ki_X10_207) dX10_look_100 ?_
                obtain ⟨r122, m121, cm121, hf⟩ := b2_el (o := f_X10_finds a0 (-1000000004) m119) hf
                refine x_callVi (As := [.int (-1000000004)]) (rest := []) C hl.1 hw cb_X10_67 cv_X10_finds (k_X10_finds hw.2.2.2.2 ta0 cm121) ta0 rfl rfl (by decide) ⟨Nat.le_refl _, Nat.le_refl _⟩ rfl (Nat.le_of_ble_eq_true rfl) dX10_look_102 (fun H locs hw tr122 => ?_)
                exact x_retI C hr hk hw  hf (by decide) (by decide) dX10_look_105
        · have hf := ifp hf c
          refine lv_aload_n hx hb dX10_look_35 rfl (lv_at hl 0 rfl) ?_
          refine lv_ldc hx hb C.2.2.2.1 (C.2.2.2.2.1 _ ki_X10_61) dX10_look_36 ?_
          obtain ⟨r124, m123, cm123, hf⟩ := b2_el (o := f_X10_finds a0 (-1000000001) m113) hf
          refine x_callVi (As := [.int (-1000000001)]) (rest := []) C hl.1 hw cb_X10_67 cv_X10_finds (k_X10_finds hw.2.2.2.2 ta0 cm123) ta0 rfl rfl (by decide) ⟨Nat.le_refl _, Nat.le_refl _⟩ rfl (Nat.le_of_ble_eq_true rfl) dX10_look_38 (fun H locs hw tr124 => ?_)
          exact x_retI C hr hk hw  hf (by decide) (by decide) dX10_look_41
set_option maxHeartbeats 4000000 in
set_option maxRecDepth 100000 in
theorem k_X10_moved {l : Launch} {D : va_G} {E : Nat → ClassId} {tU : Nat} {τ : Nat → Option XTy} {a0 : Nat} {x1 : Int32} {m0 mE : XMem} {rE : Int32} (hm : mT m0 = τ) (ta0 : τ a0 = some (.inl 10)) (hf : f_X10_moved a0 x1 m0 = some (rE, mE)) : Ct l yX10_moved cX10_moved 2 ((Option.some FieldType.int)) 3 0 0 D E tU [.ref a0, .int x1] m0 (some (.int rE)) mE (mT mE = mT m0 ∧ True) := by
  subst hm
  refine Ct.of (by decide) (Nat.le_of_ble_eq_true rfl) (fun p e s m below meth c ls C hr hk hnm hl hw => ?_)
  have hx := C.1
  have hb := C.2.1
  have hl : lv_has ls 2 [(0, .ref a0), (1, .int x1)] := hl
  unfold f_X10_moved at hf
  refine lv_aload_n hx hb dX10_moved_0 rfl (lv_at hl 0 rfl) ?_
  refine lv_iload_n hx hb dX10_moved_1 rfl (lv_at hl 1 rfl) ?_
  obtain ⟨r102, m101, cm101, hf⟩ := b2_el (o := f_X10_isHouse a0 x1 m0) hf
  refine x_callVi (As := [.int x1]) (rest := []) C hl.1 hw cb_X10_204 cv_X10_isHouse (k_X10_isHouse hw.2.2.2.2 ta0 cm101) ta0 rfl rfl (by decide) ⟨Nat.le_refl _, Nat.le_refl _⟩ rfl (Nat.le_of_ble_eq_true rfl) dX10_moved_2 (fun H locs hw tr102 => ?_)
  refine lv_if_eq (tgt := 18) hx hb dX10_moved_5 (by decide) (fun c => ?_) (fun c => ?_)
  · have hf := ifp hf c
    refine lv_aload_n hx hb dX10_moved_18 rfl (lv_at hl 0 rfl) ?_
    refine lv_ldc hx hb C.2.2.2.1 (C.2.2.2.2.1 _ ki_X10_61) dX10_moved_19 ?_
    obtain ⟨r104, m103, cm103, hf⟩ := b2_el (o := f_X10_finds a0 (-1000000001) m101) hf
    refine x_callVi (As := [.int (-1000000001)]) (rest := []) C hl.1 hw cb_X10_67 cv_X10_finds (k_X10_finds hw.2.2.2.2 ta0 cm103) ta0 rfl rfl (by decide) ⟨Nat.le_refl _, Nat.le_refl _⟩ rfl (Nat.le_of_ble_eq_true rfl) dX10_moved_21 (fun H locs hw tr104 => ?_)
    exact x_retI C hr hk hw  hf (by decide) (by decide) dX10_moved_24
  · have hf := ifn hf c
    refine lv_aload_n hx hb dX10_moved_8 rfl (lv_at hl 0 rfl) ?_
    refine lv_iload_n hx hb dX10_moved_9 rfl (lv_at hl 1 rfl) ?_
    refine lv_bipush hx hb dX10_moved_10 kb_11 ?_
    obtain ⟨r106, m105, cm105, hf⟩ := b2_el (o := f_X10_ofHouse a0 x1 11 m101) hf
    refine x_callVi (As := [.int x1, .int 11]) (rest := []) C hl.1 hw cb_X10_197 cv_X10_ofHouse (k_X10_ofHouse hw.2.2.2.2 ta0 cm105) ta0 rfl rfl (by decide) ⟨Nat.le_refl _, Nat.le_refl _⟩ rfl (Nat.le_of_ble_eq_true rfl) dX10_moved_12 (fun H locs hw tr106 => ?_)
    refine lv_goto (tgt := 24) hx hb dX10_moved_15 (by decide) ?_
    exact x_retI C hr hk hw  hf (by decide) (by decide) dX10_moved_24
set_option maxHeartbeats 4000000 in
set_option maxRecDepth 100000 in
theorem k_X10_must {l : Launch} {D : va_G} {E : Nat → ClassId} {tU : Nat} {τ : Nat → Option XTy} {a0 : Nat} {x1 : Int32} {x2 : Int32} {m0 mE : XMem} {rE : Int32} (hm : mT m0 = τ) (ta0 : τ a0 = some (.inl 10)) (hf : f_X10_must a0 x1 x2 m0 = some (rE, mE)) : Ct l yX10_must cX10_must 3 ((Option.some FieldType.int)) 7 0 0 D E tU [.ref a0, .int x1, .int x2] m0 (some (.int rE)) mE (mT mE = mT m0 ∧ True) := by
  subst hm
  refine Ct.of (by decide) (Nat.le_of_ble_eq_true rfl) (fun p e s m below meth c ls C hr hk hnm hl hw => ?_)
  have hx := C.1
  have hb := C.2.1
  have hl : lv_has ls 3 [(0, .ref a0), (1, .int x1), (2, .int x2)] := hl
  unfold f_X10_must at hf
  refine lv_aload_n hx hb dX10_must_0 rfl (lv_at hl 0 rfl) ?_
  refine lv_iload_n hx hb dX10_must_1 rfl (lv_at hl 1 rfl) ?_
  obtain ⟨r102, m101, cm101, hf⟩ := b2_el (o := f_X10_isCell a0 x1 m0) hf
  refine x_callVi (As := [.int x1]) (rest := []) C hl.1 hw cb_X10_76 cv_X10_isCell (k_X10_isCell hw.2.2.2.2 ta0 cm101) ta0 rfl rfl (by decide) ⟨Nat.le_refl _, Nat.le_refl _⟩ rfl (Nat.le_of_ble_eq_true rfl) dX10_must_2 (fun H locs hw tr102 => ?_)
  refine lv_if_eq (tgt := 25) hx hb dX10_must_5 (by decide) (fun c => ?_) (fun c => ?_)
  · have hf := ifp hf c
    refine lv_aload_n hx hb dX10_must_25 rfl (lv_at hl 0 rfl) ?_
    refine lv_ldc hx hb C.2.2.2.1 (C.2.2.2.2.1 _ ki_X10_61) dX10_must_26 ?_
    obtain ⟨r104, m103, cm103, hf⟩ := b2_el (o := f_X10_finds a0 (-1000000001) m101) hf
    refine x_callVi (As := [.int (-1000000001)]) (rest := []) C hl.1 hw cb_X10_67 cv_X10_finds (k_X10_finds hw.2.2.2.2 ta0 cm103) ta0 rfl rfl (by decide) ⟨Nat.le_refl _, Nat.le_refl _⟩ rfl (Nat.le_of_ble_eq_true rfl) dX10_must_28 (fun H locs hw tr104 => ?_)
    exact x_retI C hr hk hw  hf (by decide) (by decide) dX10_must_31
  · have hf := ifn hf c
    refine lv_aload_n hx hb dX10_must_8 rfl (lv_at hl 0 rfl) ?_
    refine lv_iload_n hx hb dX10_must_9 rfl (lv_at hl 2 rfl) ?_
    obtain ⟨r106, m105, cm105, hf⟩ := b2_el (o := f_X10_isLaw a0 x2 m101) hf
    refine x_callVi (As := [.int x2]) (rest := []) C hl.1 hw cb_X10_190 cv_X10_isLaw (k_X10_isLaw hw.2.2.2.2 ta0 cm105) ta0 rfl rfl (by decide) ⟨Nat.le_refl _, Nat.le_refl _⟩ rfl (Nat.le_of_ble_eq_true rfl) dX10_must_10 (fun H locs hw tr106 => ?_)
    refine lv_if_eq (tgt := 25) hx hb dX10_must_13 (by decide) (fun c => ?_) (fun c => ?_)
    · have hf := ifp hf c
      refine lv_aload_n hx hb dX10_must_25 rfl (lv_at hl 0 rfl) ?_
      refine lv_ldc hx hb C.2.2.2.1 (C.2.2.2.2.1 _ ki_X10_61) dX10_must_26 ?_
      obtain ⟨r108, m107, cm107, hf⟩ := b2_el (o := f_X10_finds a0 (-1000000001) m105) hf
      refine x_callVi (As := [.int (-1000000001)]) (rest := []) C hl.1 hw cb_X10_67 cv_X10_finds (k_X10_finds hw.2.2.2.2 ta0 cm107) ta0 rfl rfl (by decide) ⟨Nat.le_refl _, Nat.le_refl _⟩ rfl (Nat.le_of_ble_eq_true rfl) dX10_must_28 (fun H locs hw tr108 => ?_)
      exact x_retI C hr hk hw  hf (by decide) (by decide) dX10_must_31
    · have hf := ifn hf c
      refine lv_aload_n hx hb dX10_must_16 rfl (lv_at hl 0 rfl) ?_
      refine lv_iload_n hx hb dX10_must_17 rfl (lv_at hl 1 rfl) ?_
      refine lv_iload_n hx hb dX10_must_18 rfl (lv_at hl 2 rfl) ?_
      obtain ⟨r110, m109, cm109, hf⟩ := b2_el (o := f_X10_mustOf a0 x1 x2 m105) hf
      refine x_callVi (As := [.int x1, .int x2]) (rest := []) C hl.1 hw cb_X10_235 cv_X10_mustOf (k_X10_mustOf hw.2.2.2.2 ta0 cm109) ta0 rfl rfl (by decide) ⟨Nat.le_refl _, Nat.le_refl _⟩ rfl (Nat.le_of_ble_eq_true rfl) dX10_must_19 (fun H locs hw tr110 => ?_)
      refine lv_goto (tgt := 31) hx hb dX10_must_22 (by decide) ?_
      exact x_retI C hr hk hw  hf (by decide) (by decide) dX10_must_31
set_option maxHeartbeats 4000000 in
set_option maxRecDepth 100000 in
theorem w_X10_need_h46 {p : Program} {l : Launch} {e : Env} {s : State} {m : MethodId} {args : Array Value} {below : List Frame} {meth : Method} {c : Code} {D : va_G} {E : Nat → ClassId} {tU : Nat} {m0 mE : XMem} {rE : Int32} (C : Cx p s m args c cX10_need 6 RX10 D E (Am m0) tU) (hr : meth.sig.returnType = ((Option.some FieldType.int))) (hk : meth.locks = false) (hnm : meth.name = yX10_need.name) {a0 : Nat} {x1 : Int32} {x2 : Int32} {x3 : Int32} (ta0 : mT m0 a0 = some (.inl 10)) {k98 : Int32 →  XMem → Option (Int32 × XMem)} (hk98 : ∀ (y4 : Int32) (mu : XMem) (H : Heap) (locs : List Loc) (ls : Array Slot), lv_has ls 6 [(0, .ref a0), (4, .int y4)] → Wd D E (Am m0) s (mT m0) mu H locs →   k98 y4 mu = some (rE, mE) → W p l e (rmN 8 0 0) s m args below meth c H locs 0 0 (MQ below (XQ D E (Am m0) (some (.int rE)) mE (mT mE = mT m0 ∧ True)) args s 0 0 (Am m0)) (F0 m 98 ls [])) : ∀ (n : Nat) (x4 : Int32) (x5 : Int32) (mu : XMem) (H : Heap) (locs : List Loc) (ls : Array Slot), lv_has ls 6 [(0, .ref a0), (1, .int x1), (2, .int x2), (3, .int x3), (4, .int x4), (5, .int x5)] → Wd D E (Am m0) s (mT m0) mu H locs → f_X10_need_h46 a0 x1 x2 x3 k98 n x4 x5 mu = some (rE, mE) → W p l e (rmN 8 0 0) s m args below meth c H locs 0 0 (MQ below (XQ D E (Am m0) (some (.int rE)) mE (mT mE = mT m0 ∧ True)) args s 0 0 (Am m0)) (F0 m 46 ls []) := by
  have hx := C.1
  have hb := C.2.1
  intro n
  induction n with
  | zero =>
    intros
    rename_i hf
    cases hf
  | succ n ih =>
    intro x4 x5 mu H locs ls hl hw hf
    rw [f_X10_need_h46] at hf
    refine lv_iload hx hb dX10_need_46 (lv_at hl 5 rfl) ?_
    refine lv_sipush hx hb dX10_need_48 ks_300 ?_
    refine lv_icmp_gt (tgt := 98) hx hb dX10_need_51 (by decide) (fun c => ?_) (fun c => ?_)
    · have hf := ifp hf c
      exact hk98 _ _ _ _ _ (lv_sub hl [0, 4] rfl) hw hf
    · have hf := ifn hf c
      refine lv_iload hx hb dX10_need_54 (lv_at hl 4 rfl) ?_
      refine lv_if_ge (tgt := 98) hx hb dX10_need_56 (by decide) (fun c => ?_) (fun c => ?_)
      · have hf := ifp hf c
        exact hk98 _ _ _ _ _ (lv_sub hl [0, 4] rfl) hw hf
      · have hf := ifn hf c
        refine lv_aload_n hx hb dX10_need_59 rfl (lv_at hl 0 rfl) ?_
        refine lv_iload_n hx hb dX10_need_60 rfl (lv_at hl 1 rfl) ?_
        refine lv_iconst hx hb dX10_need_61 ki_m1 ?_
        refine lv_iload hx hb dX10_need_62 (lv_at hl 5 rfl) ?_
        refine lv_iload_n hx hb dX10_need_64 rfl (lv_at hl 3 rfl) ?_
        obtain ⟨m118, cm118, hf⟩ := b1_el (o := f_X10_go a0 x1 (-1) x5 x3 mu) hf
        refine x_callVv (As := [.int x1, .int (-1), .int x5, .int x3]) (rest := []) C hl.1 hw cb_X10_219 cv_X10_go (k_X10_go hw.2.2.2.2 ta0 cm118) ta0 rfl rfl (by decide) ⟨Nat.le_refl _, Nat.le_refl _⟩ rfl (Nat.le_of_ble_eq_true rfl) dX10_need_65 (fun H locs hw tm118 => ?_)
        refine lv_aload_n hx hb dX10_need_68 rfl (lv_at hl 0 rfl) ?_
        refine lv_iload_n hx hb dX10_need_69 rfl (lv_at hl 1 rfl) ?_
        refine lv_bipush hx hb dX10_need_70 kb_6 ?_
        obtain ⟨r120, m119, cm119, hf⟩ := b2_el (o := f_X10_ofCell a0 x1 6 m118) hf
        refine x_callVi (As := [.int x1, .int 6]) (rest := []) C hl.1 hw cb_X10_80 cv_X10_ofCell (k_X10_ofCell hw.2.2.2.2 ta0 cm119) ta0 rfl rfl (by decide) ⟨Nat.le_refl _, Nat.le_refl _⟩ rfl (Nat.le_of_ble_eq_true rfl) dX10_need_72 (fun H locs hw tr120 => ?_)
        refine lv_iload_n hx hb dX10_need_75 rfl (lv_at hl 2 rfl) ?_
        refine lv_icmp_lt (tgt := 84) hx hb dX10_need_76 (by decide) (fun c => ?_) (fun c => ?_)
        · have hf := ifp hf c
          refine lv_iconst hx hb dX10_need_84 ki_m1 ?_
          refine lv_istore (lv' := [(4, .int (-1)), (0, .ref a0), (1, .int x1), (2, .int x2), (3, .int x3), (5, .int x5)]) hx hb dX10_need_85 hl (by decide) rfl (fun ls hl => ?_)
          refine lv_aload_n hx hb dX10_need_87 rfl (lv_at hl 1 rfl) ?_
          refine lv_iload_n hx hb dX10_need_88 rfl (lv_at hl 2 rfl) ?_
          obtain ⟨m121, cm121, hf⟩ := b1_el (o := f_X10_brings a0 x1 m119) hf
          refine x_callVv (As := [.int x1]) (rest := []) C hl.1 hw cb_X10_225 cv_X10_brings (k_X10_brings hw.2.2.2.2 ta0 cm121) ta0 rfl rfl (by decide) ⟨Nat.le_refl _, Nat.le_refl _⟩ rfl (Nat.le_of_ble_eq_true rfl) dX10_need_89 (fun H locs hw tm121 => ?_)
          obtain ⟨x122, ex122⟩ : ∃ z : Int32, z = x5 + 1 := ⟨_, rfl⟩
          have hf := nm_el hf ex122
          refine lv_iinc (v := x122) (lv' := [(5, .int x122), (4, .int (-1)), (0, .ref a0), (1, .int x1), (2, .int x2), (3, .int x3)]) hx hb dX10_need_92 hl (k := 5) rfl (by rw [ex122, ki_1]) (by decide) rfl (fun ls hl => ?_)
          refine lv_goto (tgt := 46) hx hb dX10_need_95 (by decide) ?_
          exact ih _ _ _ _ _ _ (lv_sub hl [2, 3, 4, 5, 1, 0] rfl) hw hf
        · have hf := ifn hf c
          refine lv_iload hx hb dX10_need_79 (lv_at hl 5 rfl) ?_
          refine lv_goto (tgt := 85) hx hb dX10_need_81 (by decide) ?_
          refine lv_istore (lv' := [(4, .int x5), (0, .ref a0), (1, .int x1), (2, .int x2), (3, .int x3), (5, .int x5)]) hx hb dX10_need_85 hl (by decide) rfl (fun ls hl => ?_)
          refine lv_aload_n hx hb dX10_need_87 rfl (lv_at hl 1 rfl) ?_
          refine lv_iload_n hx hb dX10_need_88 rfl (lv_at hl 2 rfl) ?_
          obtain ⟨m123, cm123, hf⟩ := b1_el (o := f_X10_brings a0 x1 m119) hf
          refine x_callVv (As := [.int x1]) (rest := []) C hl.1 hw cb_X10_225 cv_X10_brings (k_X10_brings hw.2.2.2.2 ta0 cm123) ta0 rfl rfl (by decide) ⟨Nat.le_refl _, Nat.le_refl _⟩ rfl (Nat.le_of_ble_eq_true rfl) dX10_need_89 (fun H locs hw tm123 => ?_)
          obtain ⟨x124, ex124⟩ : ∃ z : Int32, z = x5 + 1 := ⟨_, rfl⟩
          have hf := nm_el hf ex124
          refine lv_iinc (v := x124) (lv' := [(5, .int x124), (4, .int x5), (0, .ref a0), (1, .int x1), (2, .int x2), (3, .int x3)]) hx hb dX10_need_92 hl (k := 5) rfl (by rw [ex124, ki_1]) (by decide) rfl (fun ls hl => ?_)
          refine lv_goto (tgt := 46) hx hb dX10_need_95 (by decide) ?_
          exact ih _ _ _ _ _ _ (lv_sub hl [2, 3, 4, 5, 1, 0] rfl) hw hf
set_option maxHeartbeats 4000000 in
set_option maxRecDepth 100000 in
theorem k_X10_need {l : Launch} {D : va_G} {E : Nat → ClassId} {tU : Nat} {τ : Nat → Option XTy} {a0 : Nat} {x1 : Int32} {x2 : Int32} {x3 : Int32} {m0 mE : XMem} {rE : Int32} (hm : mT m0 = τ) (ta0 : τ a0 = some (.inl 10)) (hf : f_X10_need a0 x1 x2 x3 m0 = some (rE, mE)) : Ct l yX10_need cX10_need 6 ((Option.some FieldType.int)) 8 0 0 D E tU [.ref a0, .int x1, .int x2, .int x3] m0 (some (.int rE)) mE (mT mE = mT m0 ∧ True) := by
  subst hm
  refine Ct.of (by decide) (Nat.le_of_ble_eq_true rfl) (fun p e s m below meth c ls C hr hk hnm hl hw => ?_)
  have hx := C.1
  have hb := C.2.1
  have hl : lv_has ls 6 [(0, .ref a0), (1, .int x1), (2, .int x2), (3, .int x3)] := hl
  unfold f_X10_need at hf
  refine lv_aload_n hx hb dX10_need_0 rfl (lv_at hl 0 rfl) ?_
  refine lv_iload_n hx hb dX10_need_1 rfl (lv_at hl 1 rfl) ?_
  obtain ⟨r102, m101, cm101, hf⟩ := b2_el (o := f_X10_isCell a0 x1 m0) hf
  refine x_callVi (As := [.int x1]) (rest := []) C hl.1 hw cb_X10_76 cv_X10_isCell (k_X10_isCell hw.2.2.2.2 ta0 cm101) ta0 rfl rfl (by decide) ⟨Nat.le_refl _, Nat.le_refl _⟩ rfl (Nat.le_of_ble_eq_true rfl) dX10_need_2 (fun H locs hw tr102 => ?_)
  refine lv_if_eq (tgt := 28) hx hb dX10_need_5 (by decide) (fun c => ?_) (fun c => ?_)
  · have hf := ifp hf c
    refine lv_aload_n hx hb dX10_need_28 rfl (lv_at hl 0 rfl) ?_
    refine lv_ldc hx hb C.2.2.2.1 (C.2.2.2.2.1 _ ki_X10_61) dX10_need_29 ?_
    obtain ⟨r104, m103, cm103, hf⟩ := b2_el (o := f_X10_finds a0 (-1000000001) m101) hf
    refine x_callVi (As := [.int (-1000000001)]) (rest := []) C hl.1 hw cb_X10_67 cv_X10_finds (k_X10_finds hw.2.2.2.2 ta0 cm103) ta0 rfl rfl (by decide) ⟨Nat.le_refl _, Nat.le_refl _⟩ rfl (Nat.le_of_ble_eq_true rfl) dX10_need_31 (fun H locs hw tr104 => ?_)
    exact x_retI C hr hk hw  hf (by decide) (by decide) dX10_need_34
  · have hf := ifn hf c
    refine lv_iload_n hx hb dX10_need_8 rfl (lv_at hl 2 rfl) ?_
    refine lv_iconst hx hb dX10_need_9 ki_0 ?_
    refine lv_ldc hx hb C.2.2.2.1 (C.2.2.2.2.1 _ ki_X10_212) dX10_need_10 ?_
    obtain ⟨r106, m105, cm105, hf⟩ := b2_el (o := f_X10_within x2 0 999999 m101) hf
    refine x_callSi (As := [.int x2, .int 0, .int 999999]) (rest := []) C hl.1 hw cb_X10_62 cs_X10_within (k_X10_within hw.2.2.2.2  cm105) rfl (by decide) ⟨Nat.le_refl _, Nat.le_refl _⟩ rfl (Nat.le_of_ble_eq_true rfl) dX10_need_12 (fun H locs hw tr106 => ?_)
    refine lv_if_eq (tgt := 28) hx hb dX10_need_15 (by decide) (fun c => ?_) (fun c => ?_)
    · have hf := ifp hf c
      refine lv_aload_n hx hb dX10_need_28 rfl (lv_at hl 0 rfl) ?_
      refine lv_ldc hx hb C.2.2.2.1 (C.2.2.2.2.1 _ ki_X10_61) dX10_need_29 ?_
      obtain ⟨r108, m107, cm107, hf⟩ := b2_el (o := f_X10_finds a0 (-1000000001) m105) hf
      refine x_callVi (As := [.int (-1000000001)]) (rest := []) C hl.1 hw cb_X10_67 cv_X10_finds (k_X10_finds hw.2.2.2.2 ta0 cm107) ta0 rfl rfl (by decide) ⟨Nat.le_refl _, Nat.le_refl _⟩ rfl (Nat.le_of_ble_eq_true rfl) dX10_need_31 (fun H locs hw tr108 => ?_)
      exact x_retI C hr hk hw  hf (by decide) (by decide) dX10_need_34
    · have hf := ifn hf c
      refine lv_iload_n hx hb dX10_need_18 rfl (lv_at hl 3 rfl) ?_
      refine lv_iconst hx hb dX10_need_19 ki_1 ?_
      refine lv_bipush hx hb dX10_need_20 kb_20 ?_
      obtain ⟨r110, m109, cm109, hf⟩ := b2_el (o := f_X10_within x3 1 20 m105) hf
      refine x_callSi (As := [.int x3, .int 1, .int 20]) (rest := []) C hl.1 hw cb_X10_62 cs_X10_within (k_X10_within hw.2.2.2.2  cm109) rfl (by decide) ⟨Nat.le_refl _, Nat.le_refl _⟩ rfl (Nat.le_of_ble_eq_true rfl) dX10_need_22 (fun H locs hw tr110 => ?_)
      refine lv_if_ne (tgt := 35) hx hb dX10_need_25 (by decide) (fun c => ?_) (fun c => ?_)
      · have hf := ifn hf c
        refine lv_aload_n hx hb dX10_need_35 rfl (lv_at hl 0 rfl) ?_
        refine lv_iload_n hx hb dX10_need_36 rfl (lv_at hl 1 rfl) ?_
        obtain ⟨m111, cm111, hf⟩ := b1_el (o := f_X10_saves a0 x1 m109) hf
        refine x_callVv (As := [.int x1]) (rest := []) C hl.1 hw cb_X10_216 cv_X10_saves (k_X10_saves hw.2.2.2.2 ta0 cm111) ta0 rfl rfl (by decide) ⟨Nat.le_refl _, Nat.le_refl _⟩ rfl (Nat.le_of_ble_eq_true rfl) dX10_need_37 (fun H locs hw tm111 => ?_)
        refine lv_iconst hx hb dX10_need_40 ki_m1 ?_
        refine lv_istore (lv' := [(4, .int (-1)), (0, .ref a0), (1, .int x1), (2, .int x2), (3, .int x3)]) hx hb dX10_need_41 hl (by decide) rfl (fun ls hl => ?_)
        refine lv_iconst hx hb dX10_need_43 ki_0 ?_
        refine lv_istore (lv' := [(5, .int 0), (4, .int (-1)), (0, .ref a0), (1, .int x1), (2, .int x2), (3, .int x3)]) hx hb dX10_need_44 hl (by decide) rfl (fun ls hl => ?_)
        refine w_X10_need_h46 C hr hk hnm ta0 ?_ 2000 _ _ _ _ _ _ (lv_sub hl [2, 3, 4, 5, 1, 0] rfl) hw hf
        intro x113 m112 H locs ls hl hw hf
        refine lv_iload hx hb dX10_need_98 (lv_at hl 1 rfl) ?_
        refine lv_if_ge (tgt := 112) hx hb dX10_need_100 (by decide) (fun c => ?_) (fun c => ?_)
        · have hf := ifp hf c
          refine lv_iload hx hb dX10_need_112 (lv_at hl 1 rfl) ?_
          exact x_retI C hr hk hw  hf (by decide) (by decide) dX10_need_114
        · have hf := ifn hf c
          refine lv_aload_n hx hb dX10_need_103 rfl (lv_at hl 0 rfl) ?_
          refine lv_ldc hx hb C.2.2.2.1 (C.2.2.2.2.1 _ ki_X10_207) dX10_need_104 ?_
          obtain ⟨r115, m114, cm114, hf⟩ := b2_el (o := f_X10_finds a0 (-1000000004) m112) hf
          refine x_callVi (As := [.int (-1000000004)]) (rest := []) C hl.1 hw cb_X10_67 cv_X10_finds (k_X10_finds hw.2.2.2.2 ta0 cm114) ta0 rfl rfl (by decide) ⟨Nat.le_refl _, Nat.le_refl _⟩ rfl (Nat.le_of_ble_eq_true rfl) dX10_need_106 (fun H locs hw tr115 => ?_)
          refine lv_goto (tgt := 114) hx hb dX10_need_109 (by decide) ?_
          exact x_retI C hr hk hw  hf (by decide) (by decide) dX10_need_114
      · have hf := ifp hf c
        refine lv_aload_n hx hb dX10_need_28 rfl (lv_at hl 0 rfl) ?_
        refine lv_ldc hx hb C.2.2.2.1 (C.2.2.2.2.1 _ ki_X10_61) dX10_need_29 ?_
        obtain ⟨r117, m116, cm116, hf⟩ := b2_el (o := f_X10_finds a0 (-1000000001) m109) hf
        refine x_callVi (As := [.int (-1000000001)]) (rest := []) C hl.1 hw cb_X10_67 cv_X10_finds (k_X10_finds hw.2.2.2.2 ta0 cm116) ta0 rfl rfl (by decide) ⟨Nat.le_refl _, Nat.le_refl _⟩ rfl (Nat.le_of_ble_eq_true rfl) dX10_need_31 (fun H locs hw tr117 => ?_)
        exact x_retI C hr hk hw  hf (by decide) (by decide) dX10_need_34
set_option maxHeartbeats 4000000 in
set_option maxRecDepth 100000 in
theorem w_X10_night_j83 {p : Program} {l : Launch} {e : Env} {s : State} {m : MethodId} {args : Array Value} {below : List Frame} {meth : Method} {c : Code} {D : va_G} {E : Nat → ClassId} {tU : Nat} {m0 mE : XMem} {rE : Int32} (C : Cx p s m args c cX10_night 4 RX10 D E (Am m0) tU) (hr : meth.sig.returnType = ((Option.some FieldType.int))) (hk : meth.locks = false) (hnm : meth.name = yX10_night.name) {a0 : Nat} {x1 : Int32} {x3 : Int32} {mu : XMem} {H : Heap} {locs : List Loc} {ls : Array Slot} (ta0 : mT m0 a0 = some (.inl 10)) (hl : lv_has ls 4 [(0, .ref a0), (1, .int x1), (3, .int x3)]) (hw : Wd D E (Am m0) s (mT m0) mu H locs) (hf : f_X10_night_j83 a0 x1 x3 mu = some (rE, mE)) : W p l e (rmN 7 0 0) s m args below meth c H locs 0 0 (MQ below (XQ D E (Am m0) (some (.int rE)) mE (mT mE = mT m0 ∧ True)) args s 0 0 (Am m0)) (F0 m 83 ls []) := by
  have hx := C.1
  have hb := C.2.1
  unfold f_X10_night_j83 at hf
  refine lv_aload_n hx hb dX10_night_83 rfl (lv_at hl 0 rfl) ?_
  refine lv_iload_n hx hb dX10_night_84 rfl (lv_at hl 1 rfl) ?_
  obtain ⟨m121, cm121, hf⟩ := b1_el (o := f_X10_brings a0 x1 mu) hf
  refine x_callVv (As := [.int x1]) (rest := []) C hl.1 hw cb_X10_225 cv_X10_brings (k_X10_brings hw.2.2.2.2 ta0 cm121) ta0 rfl rfl (by decide) ⟨Nat.le_refl _, Nat.le_refl _⟩ rfl (Nat.le_of_ble_eq_true rfl) dX10_night_85 (fun H locs hw tm121 => ?_)
  refine lv_iload_n hx hb dX10_night_88 rfl (lv_at hl 2 rfl) ?_
  refine lv_sipush hx hb dX10_night_89 ks_200 ?_
  refine lv_icmp_le (tgt := 104) hx hb dX10_night_92 (by decide) (fun c => ?_) (fun c => ?_)
  · have hf := ifp hf c
    refine lv_iload_n hx hb dX10_night_104 rfl (lv_at hl 2 rfl) ?_
    exact x_retI C hr hk hw  hf (by decide) (by decide) dX10_night_105
  · have hf := ifn hf c
    refine lv_aload_n hx hb dX10_night_95 rfl (lv_at hl 0 rfl) ?_
    refine lv_ldc hx hb C.2.2.2.1 (C.2.2.2.2.1 _ ki_X10_207) dX10_night_96 ?_
    obtain ⟨r123, m122, cm122, hf⟩ := b2_el (o := f_X10_finds a0 (-1000000004) m121) hf
    refine x_callVi (As := [.int (-1000000004)]) (rest := []) C hl.1 hw cb_X10_67 cv_X10_finds (k_X10_finds hw.2.2.2.2 ta0 cm122) ta0 rfl rfl (by decide) ⟨Nat.le_refl _, Nat.le_refl _⟩ rfl (Nat.le_of_ble_eq_true rfl) dX10_night_98 (fun H locs hw tr123 => ?_)
    refine lv_goto (tgt := 105) hx hb dX10_night_101 (by decide) ?_
    exact x_retI C hr hk hw  hf (by decide) (by decide) dX10_night_105
set_option maxHeartbeats 4000000 in
set_option maxRecDepth 100000 in
theorem w_X10_night_h39 {p : Program} {l : Launch} {e : Env} {s : State} {m : MethodId} {args : Array Value} {below : List Frame} {meth : Method} {c : Code} {D : va_G} {E : Nat → ClassId} {tU : Nat} {m0 mE : XMem} {rE : Int32} (C : Cx p s m args c cX10_night 4 RX10 D E (Am m0) tU) (hr : meth.sig.returnType = ((Option.some FieldType.int))) (hk : meth.locks = false) (hnm : meth.name = yX10_night.name) {a0 : Nat} {x1 : Int32} {x2 : Int32} (ta0 : mT m0 a0 = some (.inl 10)) {k83 : Int32 →  XMem → Option (Int32 × XMem)} (hk83 : ∀ (y3 : Int32) (mu : XMem) (H : Heap) (locs : List Loc) (ls : Array Slot), lv_has ls 4 [(0, .ref a0), (1, .int x1), (3, .int y3)] → Wd D E (Am m0) s (mT m0) mu H locs →   k83 y3 mu = some (rE, mE) → W p l e (rmN 7 0 0) s m args below meth c H locs 0 0 (MQ below (XQ D E (Am m0) (some (.int rE)) mE (mT mE = mT m0 ∧ True)) args s 0 0 (Am m0)) (F0 m 83 ls [])) : ∀ (n : Nat) (x3 : Int32) (mu : XMem) (H : Heap) (locs : List Loc) (ls : Array Slot), lv_has ls 4 [(0, .ref a0), (1, .int x1), (2, .int x2), (3, .int x3)] → Wd D E (Am m0) s (mT m0) mu H locs → f_X10_night_h39 a0 x1 x2 k83 n x3 mu = some (rE, mE) → W p l e (rmN 7 0 0) s m args below meth c H locs 0 0 (MQ below (XQ D E (Am m0) (some (.int rE)) mE (mT mE = mT m0 ∧ True)) args s 0 0 (Am m0)) (F0 m 39 ls []) := by
  have hx := C.1
  have hb := C.2.1
  intro n
  induction n with
  | zero =>
    intros
    rename_i hf
    cases hf
  | succ n ih =>
    intro x3 mu H locs ls hl hw hf
    rw [f_X10_night_h39] at hf
    refine lv_iload_n hx hb dX10_night_39 rfl (lv_at hl 3 rfl) ?_
    refine lv_sipush hx hb dX10_night_40 ks_201 ?_
    refine lv_icmp_ge (tgt := 83) hx hb dX10_night_43 (by decide) (fun c => ?_) (fun c => ?_)
    · have hf := ifp hf c
      exact hk83 _ _ _ _ _ (lv_sub hl [0, 1, 3] rfl) hw hf
    · have hf := ifn hf c
      refine lv_aload_n hx hb dX10_night_46 rfl (lv_at hl 0 rfl) ?_
      refine lv_iload_n hx hb dX10_night_47 rfl (lv_at hl 1 rfl) ?_
      obtain ⟨r114, m113, cm113, hf⟩ := b2_el (o := f_X10_readOf a0 x1 mu) hf
      refine x_callVi (As := [.int x1]) (rest := []) C hl.1 hw cb_X10_115 cv_X10_readOf (k_X10_readOf hw.2.2.2.2 ta0 cm113) ta0 rfl rfl (by decide) ⟨Nat.le_refl _, Nat.le_refl _⟩ rfl (Nat.le_of_ble_eq_true rfl) dX10_night_48 (fun H locs hw tr114 => ?_)
      refine lv_iload_n hx hb dX10_night_51 rfl (lv_at hl 2 rfl) ?_
      refine lv_icmp_le (tgt := 83) hx hb dX10_night_52 (by decide) (fun c => ?_) (fun c => ?_)
      · have hf := ifp hf c
        exact hk83 _ _ _ _ _ (lv_sub hl [0, 1, 3] rfl) hw hf
      · have hf := ifn hf c
        refine lv_aload_n hx hb dX10_night_55 rfl (lv_at hl 0 rfl) ?_
        refine lv_iload_n hx hb dX10_night_56 rfl (lv_at hl 1 rfl) ?_
        refine lv_aload_n hx hb dX10_night_57 rfl (lv_at hl 0 rfl) ?_
        obtain ⟨b115, eb115, hf⟩ := fo_el hf
        refine x_getR C hw fa_X10_7 (Or.inr ⟨_, rfl⟩) ta0 eb115 dX10_night_58 (fun tb115 => ?_)
        have tb115 : ∃ n, (mT m0) b115 = some (.inr (0, n)) := tb115
        refine lv_iconst hx hb dX10_night_61 ki_4 ?_
        obtain ⟨g116, hf⟩ := gd_el hf
        refine x_iald C hw tb115 g116 dX10_night_62 ?_
        refine lv_iconst hx hb dX10_night_63 ki_1 ?_
        refine lv_isub hx hb dX10_night_64 ?_
        refine lv_iconst hx hb dX10_night_65 ki_m1 ?_
        refine lv_aload_n hx hb dX10_night_66 rfl (lv_at hl 0 rfl) ?_
        obtain ⟨b117, eb117, hf⟩ := fo_el hf
        refine x_getR C hw fa_X10_7 (Or.inr ⟨_, rfl⟩) ta0 eb117 dX10_night_67 (fun tb117 => ?_)
        have tb117 : ∃ n, (mT m0) b117 = some (.inr (0, n)) := tb117
        refine lv_iconst hx hb dX10_night_70 ki_0 ?_
        obtain ⟨g118, hf⟩ := gd_el hf
        refine x_iald C hw tb117 g118 dX10_night_71 ?_
        refine lv_iload_n hx hb dX10_night_72 rfl (lv_at hl 3 rfl) ?_
        refine lv_iadd hx hb dX10_night_73 ?_
        obtain ⟨m119, cm119, hf⟩ := b1_el (o := f_X10_goes a0 x1 ((mI m113 b115 (Int32.toNatClampNeg 4)) - 1) (-1) ((mI m113 b117 (Int32.toNatClampNeg 0)) + x3) m113) hf
        refine x_callVv (As := [.int x1, .int ((mI m113 b115 (Int32.toNatClampNeg 4)) - 1), .int (-1), .int ((mI m113 b117 (Int32.toNatClampNeg 0)) + x3)]) (rest := []) C hl.1 hw cb_X10_103 cv_X10_goes (k_X10_goes hw.2.2.2.2 ta0 cm119) ta0 rfl rfl (by decide) ⟨Nat.le_refl _, Nat.le_refl _⟩ rfl (Nat.le_of_ble_eq_true rfl) dX10_night_74 (fun H locs hw tm119 => ?_)
        obtain ⟨x120, ex120⟩ : ∃ z : Int32, z = x3 + 1 := ⟨_, rfl⟩
        have hf := nm_el hf ex120
        refine lv_iinc (v := x120) (lv' := [(3, .int x120), (0, .ref a0), (1, .int x1), (2, .int x2)]) hx hb dX10_night_77 hl (k := 3) rfl (by rw [ex120, ki_1]) (by decide) rfl (fun ls hl => ?_)
        refine lv_goto (tgt := 39) hx hb dX10_night_80 (by decide) ?_
        exact ih _ _ _ _ _ (lv_sub hl [1, 2, 3, 0] rfl) hw hf
set_option maxHeartbeats 4000000 in
set_option maxRecDepth 100000 in
theorem k_X10_night {l : Launch} {D : va_G} {E : Nat → ClassId} {tU : Nat} {τ : Nat → Option XTy} {a0 : Nat} {x1 : Int32} {x2 : Int32} {m0 mE : XMem} {rE : Int32} (hm : mT m0 = τ) (ta0 : τ a0 = some (.inl 10)) (hf : f_X10_night a0 x1 x2 m0 = some (rE, mE)) : Ct l yX10_night cX10_night 4 ((Option.some FieldType.int)) 7 0 0 D E tU [.ref a0, .int x1, .int x2] m0 (some (.int rE)) mE (mT mE = mT m0 ∧ True) := by
  subst hm
  refine Ct.of (by decide) (Nat.le_of_ble_eq_true rfl) (fun p e s m below meth c ls C hr hk hnm hl hw => ?_)
  have hx := C.1
  have hb := C.2.1
  have hl : lv_has ls 4 [(0, .ref a0), (1, .int x1), (2, .int x2)] := hl
  unfold f_X10_night at hf
  refine lv_aload_n hx hb dX10_night_0 rfl (lv_at hl 0 rfl) ?_
  refine lv_iload_n hx hb dX10_night_1 rfl (lv_at hl 1 rfl) ?_
  obtain ⟨r102, m101, cm101, hf⟩ := b2_el (o := f_X10_isCell a0 x1 m0) hf
  refine x_callVi (As := [.int x1]) (rest := []) C hl.1 hw cb_X10_76 cv_X10_isCell (k_X10_isCell hw.2.2.2.2 ta0 cm101) ta0 rfl rfl (by decide) ⟨Nat.le_refl _, Nat.le_refl _⟩ rfl (Nat.le_of_ble_eq_true rfl) dX10_night_2 (fun H locs hw tr102 => ?_)
  refine lv_if_eq (tgt := 18) hx hb dX10_night_5 (by decide) (fun c => ?_) (fun c => ?_)
  · have hf := ifp hf c
    refine lv_aload_n hx hb dX10_night_18 rfl (lv_at hl 0 rfl) ?_
    refine lv_ldc hx hb C.2.2.2.1 (C.2.2.2.2.1 _ ki_X10_61) dX10_night_19 ?_
    obtain ⟨r104, m103, cm103, hf⟩ := b2_el (o := f_X10_finds a0 (-1000000001) m101) hf
    refine x_callVi (As := [.int (-1000000001)]) (rest := []) C hl.1 hw cb_X10_67 cv_X10_finds (k_X10_finds hw.2.2.2.2 ta0 cm103) ta0 rfl rfl (by decide) ⟨Nat.le_refl _, Nat.le_refl _⟩ rfl (Nat.le_of_ble_eq_true rfl) dX10_night_21 (fun H locs hw tr104 => ?_)
    exact x_retI C hr hk hw  hf (by decide) (by decide) dX10_night_24
  · have hf := ifn hf c
    refine lv_iload_n hx hb dX10_night_8 rfl (lv_at hl 2 rfl) ?_
    refine lv_iconst hx hb dX10_night_9 ki_0 ?_
    refine lv_ldc hx hb C.2.2.2.1 (C.2.2.2.2.1 _ ki_X10_212) dX10_night_10 ?_
    obtain ⟨r106, m105, cm105, hf⟩ := b2_el (o := f_X10_within x2 0 999999 m101) hf
    refine x_callSi (As := [.int x2, .int 0, .int 999999]) (rest := []) C hl.1 hw cb_X10_62 cs_X10_within (k_X10_within hw.2.2.2.2  cm105) rfl (by decide) ⟨Nat.le_refl _, Nat.le_refl _⟩ rfl (Nat.le_of_ble_eq_true rfl) dX10_night_12 (fun H locs hw tr106 => ?_)
    refine lv_if_ne (tgt := 25) hx hb dX10_night_15 (by decide) (fun c => ?_) (fun c => ?_)
    · have hf := ifn hf c
      refine lv_aload_n hx hb dX10_night_25 rfl (lv_at hl 0 rfl) ?_
      refine lv_iload_n hx hb dX10_night_26 rfl (lv_at hl 1 rfl) ?_
      obtain ⟨m107, cm107, hf⟩ := b1_el (o := f_X10_saves a0 x1 m105) hf
      refine x_callVv (As := [.int x1]) (rest := []) C hl.1 hw cb_X10_216 cv_X10_saves (k_X10_saves hw.2.2.2.2 ta0 cm107) ta0 rfl rfl (by decide) ⟨Nat.le_refl _, Nat.le_refl _⟩ rfl (Nat.le_of_ble_eq_true rfl) dX10_night_27 (fun H locs hw tm107 => ?_)
      refine lv_aload_n hx hb dX10_night_30 rfl (lv_at hl 0 rfl) ?_
      refine lv_iload_n hx hb dX10_night_31 rfl (lv_at hl 1 rfl) ?_
      refine lv_iconst hx hb dX10_night_32 ki_1 ?_
      refine lv_iconst hx hb dX10_night_33 ki_0 ?_
      obtain ⟨m108, cm108, hf⟩ := b1_el (o := f_X10_puts a0 x1 1 0 m107) hf
      refine x_callVv (As := [.int x1, .int 1, .int 0]) (rest := []) C hl.1 hw cb_X10_72 cv_X10_puts (k_X10_puts hw.2.2.2.2 ta0 cm108) ta0 rfl rfl (by decide) ⟨Nat.le_refl _, Nat.le_refl _⟩ rfl (Nat.le_of_ble_eq_true rfl) dX10_night_34 (fun H locs hw tm108 => ?_)
      refine lv_iconst hx hb dX10_night_37 ki_0 ?_
      refine lv_istore_n (lv' := [(3, .int 0), (0, .ref a0), (1, .int x1), (2, .int x2)]) hx hb dX10_night_38 rfl hl (by decide) rfl (fun ls hl => ?_)
      refine w_X10_night_h39 C hr hk hnm ta0 ?_ 2000 _ _ _ _ _ (lv_sub hl [1, 2, 3, 0] rfl) hw hf
      intro x110 m109 H locs ls hl hw hf
      exact w_X10_night_j83 C hr hk hnm ta0 (lv_sub hl [0, 1, 2] rfl) hw hf
    · have hf := ifp hf c
      refine lv_aload_n hx hb dX10_night_18 rfl (lv_at hl 0 rfl) ?_
      refine lv_ldc hx hb C.2.2.2.1 (C.2.2.2.2.1 _ ki_X10_61) dX10_night_19 ?_
      obtain ⟨r112, m111, cm111, hf⟩ := b2_el (o := f_X10_finds a0 (-1000000001) m105) hf
      refine x_callVi (As := [.int (-1000000001)]) (rest := []) C hl.1 hw cb_X10_67 cv_X10_finds (k_X10_finds hw.2.2.2.2 ta0 cm111) ta0 rfl rfl (by decide) ⟨Nat.le_refl _, Nat.le_refl _⟩ rfl (Nat.le_of_ble_eq_true rfl) dX10_night_21 (fun H locs hw tr112 => ?_)
      exact x_retI C hr hk hw  hf (by decide) (by decide) dX10_night_24
set_option maxHeartbeats 4000000 in
set_option maxRecDepth 100000 in
theorem k_X10_of {l : Launch} {D : va_G} {E : Nat → ClassId} {tU : Nat} {τ : Nat → Option XTy} {a0 : Nat} {x1 : Int32} {x2 : Int32} {m0 mE : XMem} {rE : Int32} (hm : mT m0 = τ) (ta0 : τ a0 = some (.inl 10)) (hf : f_X10_of a0 x1 x2 m0 = some (rE, mE)) : Ct l yX10_of cX10_of 3 ((Option.some FieldType.int)) 4 0 0 D E tU [.ref a0, .int x1, .int x2] m0 (some (.int rE)) mE (mT mE = mT m0 ∧ True) := by
  subst hm
  refine Ct.of (by decide) (Nat.le_of_ble_eq_true rfl) (fun p e s m below meth c ls C hr hk hnm hl hw => ?_)
  have hx := C.1
  have hb := C.2.1
  have hl : lv_has ls 3 [(0, .ref a0), (1, .int x1), (2, .int x2)] := hl
  unfold f_X10_of at hf
  refine lv_aload_n hx hb dX10_of_0 rfl (lv_at hl 0 rfl) ?_
  refine lv_iload_n hx hb dX10_of_1 rfl (lv_at hl 1 rfl) ?_
  obtain ⟨r102, m101, cm101, hf⟩ := b2_el (o := f_X10_isCell a0 x1 m0) hf
  refine x_callVi (As := [.int x1]) (rest := []) C hl.1 hw cb_X10_76 cv_X10_isCell (k_X10_isCell hw.2.2.2.2 ta0 cm101) ta0 rfl rfl (by decide) ⟨Nat.le_refl _, Nat.le_refl _⟩ rfl (Nat.le_of_ble_eq_true rfl) dX10_of_2 (fun H locs hw tr102 => ?_)
  refine lv_if_eq (tgt := 18) hx hb dX10_of_5 (by decide) (fun c => ?_) (fun c => ?_)
  · have hf := ifp hf c
    refine lv_aload_n hx hb dX10_of_18 rfl (lv_at hl 0 rfl) ?_
    refine lv_ldc hx hb C.2.2.2.1 (C.2.2.2.2.1 _ ki_X10_61) dX10_of_19 ?_
    obtain ⟨r104, m103, cm103, hf⟩ := b2_el (o := f_X10_finds a0 (-1000000001) m101) hf
    refine x_callVi (As := [.int (-1000000001)]) (rest := []) C hl.1 hw cb_X10_67 cv_X10_finds (k_X10_finds hw.2.2.2.2 ta0 cm103) ta0 rfl rfl (by decide) ⟨Nat.le_refl _, Nat.le_refl _⟩ rfl (Nat.le_of_ble_eq_true rfl) dX10_of_21 (fun H locs hw tr104 => ?_)
    exact x_retI C hr hk hw  hf (by decide) (by decide) dX10_of_24
  · have hf := ifn hf c
    refine lv_iload_n hx hb dX10_of_8 rfl (lv_at hl 2 rfl) ?_
    refine lv_iconst hx hb dX10_of_9 ki_0 ?_
    refine lv_bipush hx hb dX10_of_10 kb_9 ?_
    obtain ⟨r106, m105, cm105, hf⟩ := b2_el (o := f_X10_within x2 0 9 m101) hf
    refine x_callSi (As := [.int x2, .int 0, .int 9]) (rest := []) C hl.1 hw cb_X10_62 cs_X10_within (k_X10_within hw.2.2.2.2  cm105) rfl (by decide) ⟨Nat.le_refl _, Nat.le_refl _⟩ rfl (Nat.le_of_ble_eq_true rfl) dX10_of_12 (fun H locs hw tr106 => ?_)
    refine lv_if_ne (tgt := 25) hx hb dX10_of_15 (by decide) (fun c => ?_) (fun c => ?_)
    · have hf := ifn hf c
      refine lv_iload_n hx hb dX10_of_25 rfl (lv_at hl 2 rfl) ?_
      refine lv_bipush hx hb dX10_of_26 kb_8 ?_
      refine lv_icmp_ge (tgt := 40) hx hb dX10_of_28 (by decide) (fun c => ?_) (fun c => ?_)
      · have hf := ifp hf c
        refine lv_iload_n hx hb dX10_of_40 rfl (lv_at hl 2 rfl) ?_
        refine lv_bipush hx hb dX10_of_41 kb_8 ?_
        refine lv_icmp_ne (tgt := 54) hx hb dX10_of_43 (by decide) (fun c => ?_) (fun c => ?_)
        · have hf := ifn hf c
          refine lv_aload_n hx hb dX10_of_54 rfl (lv_at hl 0 rfl) ?_
          refine lv_iload_n hx hb dX10_of_55 rfl (lv_at hl 1 rfl) ?_
          obtain ⟨r108, m107, cm107, hf⟩ := b2_el (o := f_X10_readOf a0 x1 m105) hf
          refine x_callVi (As := [.int x1]) (rest := []) C hl.1 hw cb_X10_115 cv_X10_readOf (k_X10_readOf hw.2.2.2.2 ta0 cm107) ta0 rfl rfl (by decide) ⟨Nat.le_refl _, Nat.le_refl _⟩ rfl (Nat.le_of_ble_eq_true rfl) dX10_of_56 (fun H locs hw tr108 => ?_)
          exact x_retI C hr hk hw  hf (by decide) (by decide) dX10_of_59
        · have hf := ifp hf c
          refine lv_aload_n hx hb dX10_of_46 rfl (lv_at hl 0 rfl) ?_
          refine lv_iload_n hx hb dX10_of_47 rfl (lv_at hl 1 rfl) ?_
          obtain ⟨r110, m109, cm109, hf⟩ := b2_el (o := f_X10_warmth a0 x1 m105) hf
          refine x_callVi (As := [.int x1]) (rest := []) C hl.1 hw cb_X10_84 cv_X10_warmth (k_X10_warmth hw.2.2.2.2 ta0 cm109) ta0 rfl rfl (by decide) ⟨Nat.le_refl _, Nat.le_refl _⟩ rfl (Nat.le_of_ble_eq_true rfl) dX10_of_48 (fun H locs hw tr110 => ?_)
          refine lv_goto (tgt := 59) hx hb dX10_of_51 (by decide) ?_
          exact x_retI C hr hk hw  hf (by decide) (by decide) dX10_of_59
      · have hf := ifn hf c
        refine lv_aload_n hx hb dX10_of_31 rfl (lv_at hl 0 rfl) ?_
        refine lv_iload_n hx hb dX10_of_32 rfl (lv_at hl 1 rfl) ?_
        refine lv_iload_n hx hb dX10_of_33 rfl (lv_at hl 2 rfl) ?_
        obtain ⟨r112, m111, cm111, hf⟩ := b2_el (o := f_X10_ofCell a0 x1 x2 m105) hf
        refine x_callVi (As := [.int x1, .int x2]) (rest := []) C hl.1 hw cb_X10_80 cv_X10_ofCell (k_X10_ofCell hw.2.2.2.2 ta0 cm111) ta0 rfl rfl (by decide) ⟨Nat.le_refl _, Nat.le_refl _⟩ rfl (Nat.le_of_ble_eq_true rfl) dX10_of_34 (fun H locs hw tr112 => ?_)
        refine lv_goto (tgt := 59) hx hb dX10_of_37 (by decide) ?_
        exact x_retI C hr hk hw  hf (by decide) (by decide) dX10_of_59
    · have hf := ifp hf c
      refine lv_aload_n hx hb dX10_of_18 rfl (lv_at hl 0 rfl) ?_
      refine lv_ldc hx hb C.2.2.2.1 (C.2.2.2.2.1 _ ki_X10_61) dX10_of_19 ?_
      obtain ⟨r114, m113, cm113, hf⟩ := b2_el (o := f_X10_finds a0 (-1000000001) m105) hf
      refine x_callVi (As := [.int (-1000000001)]) (rest := []) C hl.1 hw cb_X10_67 cv_X10_finds (k_X10_finds hw.2.2.2.2 ta0 cm113) ta0 rfl rfl (by decide) ⟨Nat.le_refl _, Nat.le_refl _⟩ rfl (Nat.le_of_ble_eq_true rfl) dX10_of_21 (fun H locs hw tr114 => ?_)
      exact x_retI C hr hk hw  hf (by decide) (by decide) dX10_of_24
set_option maxHeartbeats 4000000 in
set_option maxRecDepth 100000 in
theorem w_X10_order_h28 {p : Program} {l : Launch} {e : Env} {s : State} {m : MethodId} {args : Array Value} {below : List Frame} {meth : Method} {c : Code} {D : va_G} {E : Nat → ClassId} {tU : Nat} {m0 mE : XMem} {rE : Int32} (C : Cx p s m args c cX10_order 5 RX10 D E (Am m0) tU) (hr : meth.sig.returnType = ((Option.some FieldType.int))) (hk : meth.locks = false) (hnm : meth.name = yX10_order.name) {a0 : Nat} {x1 : Int32} {x2 : Int32} (ta0 : mT m0 a0 = some (.inl 10)) {k74 : Int32 →  XMem → Option (Int32 × XMem)} (hk74 : ∀ (y3 : Int32) (mu : XMem) (H : Heap) (locs : List Loc) (ls : Array Slot), lv_has ls 5 [(0, .ref a0), (1, .int x1), (2, .int x2), (3, .int y3)] → Wd D E (Am m0) s (mT m0) mu H locs →   k74 y3 mu = some (rE, mE) → W p l e (rmN 3 0 0) s m args below meth c H locs 0 0 (MQ below (XQ D E (Am m0) (some (.int rE)) mE (mT mE = mT m0 ∧ True)) args s 0 0 (Am m0)) (F0 m 74 ls [])) : ∀ (n : Nat) (x3 : Int32) (x4 : Int32) (mu : XMem) (H : Heap) (locs : List Loc) (ls : Array Slot), lv_has ls 5 [(0, .ref a0), (1, .int x1), (2, .int x2), (3, .int x3), (4, .int x4)] → Wd D E (Am m0) s (mT m0) mu H locs → f_X10_order_h28 a0 x1 x2 k74 n x3 x4 mu = some (rE, mE) → W p l e (rmN 3 0 0) s m args below meth c H locs 0 0 (MQ below (XQ D E (Am m0) (some (.int rE)) mE (mT mE = mT m0 ∧ True)) args s 0 0 (Am m0)) (F0 m 28 ls []) := by
  have hx := C.1
  have hb := C.2.1
  intro n
  induction n with
  | zero =>
    intros
    rename_i hf
    cases hf
  | succ n ih =>
    intro x3 x4 mu H locs ls hl hw hf
    rw [f_X10_order_h28] at hf
    refine lv_iload hx hb dX10_order_28 (lv_at hl 4 rfl) ?_
    refine lv_aload_n hx hb dX10_order_30 rfl (lv_at hl 0 rfl) ?_
    obtain ⟨b116, eb116, hf⟩ := fo_el hf
    refine x_getR C hw fa_X10_7 (Or.inr ⟨_, rfl⟩) ta0 eb116 dX10_order_31 (fun tb116 => ?_)
    have tb116 : ∃ n, (mT m0) b116 = some (.inr (0, n)) := tb116
    refine lv_iconst hx hb dX10_order_34 ki_3 ?_
    obtain ⟨g117, hf⟩ := gd_el hf
    refine x_iald C hw tb116 g117 dX10_order_35 ?_
    refine lv_icmp_ge (tgt := 74) hx hb dX10_order_36 (by decide) (fun c => ?_) (fun c => ?_)
    · have hf := ifp hf c
      exact hk74 _ _ _ _ _ (lv_sub hl [0, 1, 2, 3] rfl) hw hf
    · have hf := ifn hf c
      refine lv_iload_n hx hb dX10_order_39 rfl (lv_at hl 3 rfl) ?_
      refine lv_aload_n hx hb dX10_order_40 rfl (lv_at hl 0 rfl) ?_
      refine lv_iload hx hb dX10_order_41 (lv_at hl 4 rfl) ?_
      refine lv_bipush hx hb dX10_order_43 kb_6 ?_
      obtain ⟨r119, m118, cm118, hf⟩ := b2_el (o := f_X10_ofHouse a0 x4 6 mu) hf
      refine x_callVi (As := [.int x4, .int 6]) (rest := [.int x3]) C hl.1 hw cb_X10_197 cv_X10_ofHouse (k_X10_ofHouse hw.2.2.2.2 ta0 cm118) ta0 rfl rfl (by decide) ⟨Nat.le_refl _, Nat.le_refl _⟩ rfl (Nat.le_of_ble_eq_true rfl) dX10_order_45 (fun H locs hw tr119 => ?_)
      refine lv_if_le (tgt := 65) hx hb dX10_order_48 (by decide) (fun c => ?_) (fun c => ?_)
      · have hf := ifp hf c
        refine lv_iconst hx hb dX10_order_65 ki_0 ?_
        refine lv_iadd hx hb dX10_order_66 ?_
        refine lv_topi (fun x120 ex120 => ?_)
        have hf := nm_el hf ex120
        refine lv_istore_n (lv' := [(3, .int x120), (0, .ref a0), (1, .int x1), (2, .int x2), (4, .int x4)]) hx hb dX10_order_67 rfl hl (by decide) rfl (fun ls hl => ?_)
        obtain ⟨x121, ex121⟩ : ∃ z : Int32, z = x4 + 1 := ⟨_, rfl⟩
        have hf := nm_el hf ex121
        refine lv_iinc (v := x121) (lv' := [(4, .int x121), (3, .int x120), (0, .ref a0), (1, .int x1), (2, .int x2)]) hx hb dX10_order_68 hl (k := 4) rfl (by rw [ex121, ki_1]) (by decide) rfl (fun ls hl => ?_)
        refine lv_goto (tgt := 28) hx hb dX10_order_71 (by decide) ?_
        exact ih _ _ _ _ _ _ (lv_sub hl [2, 3, 4, 1, 0] rfl) hw hf
      · have hf := ifn hf c
        refine lv_aload_n hx hb dX10_order_51 rfl (lv_at hl 0 rfl) ?_
        refine lv_iload hx hb dX10_order_52 (lv_at hl 4 rfl) ?_
        refine lv_iload_n hx hb dX10_order_54 rfl (lv_at hl 2 rfl) ?_
        obtain ⟨r123, m122, cm122, hf⟩ := b2_el (o := f_X10_isAhead a0 x4 x2 m118) hf
        refine x_callVi (As := [.int x4, .int x2]) (rest := [.int x3]) C hl.1 hw cb_X10_208 cv_X10_isAhead (k_X10_isAhead hw.2.2.2.2 ta0 cm122) ta0 rfl rfl (by decide) ⟨Nat.le_refl _, Nat.le_refl _⟩ rfl (Nat.le_of_ble_eq_true rfl) dX10_order_55 (fun H locs hw tr123 => ?_)
        refine lv_if_eq (tgt := 65) hx hb dX10_order_58 (by decide) (fun c => ?_) (fun c => ?_)
        · have hf := ifp hf c
          refine lv_iconst hx hb dX10_order_65 ki_0 ?_
          refine lv_iadd hx hb dX10_order_66 ?_
          refine lv_topi (fun x124 ex124 => ?_)
          have hf := nm_el hf ex124
          refine lv_istore_n (lv' := [(3, .int x124), (0, .ref a0), (1, .int x1), (2, .int x2), (4, .int x4)]) hx hb dX10_order_67 rfl hl (by decide) rfl (fun ls hl => ?_)
          obtain ⟨x125, ex125⟩ : ∃ z : Int32, z = x4 + 1 := ⟨_, rfl⟩
          have hf := nm_el hf ex125
          refine lv_iinc (v := x125) (lv' := [(4, .int x125), (3, .int x124), (0, .ref a0), (1, .int x1), (2, .int x2)]) hx hb dX10_order_68 hl (k := 4) rfl (by rw [ex125, ki_1]) (by decide) rfl (fun ls hl => ?_)
          refine lv_goto (tgt := 28) hx hb dX10_order_71 (by decide) ?_
          exact ih _ _ _ _ _ _ (lv_sub hl [2, 3, 4, 1, 0] rfl) hw hf
        · have hf := ifn hf c
          refine lv_iconst hx hb dX10_order_61 ki_1 ?_
          refine lv_goto (tgt := 66) hx hb dX10_order_62 (by decide) ?_
          refine lv_iadd hx hb dX10_order_66 ?_
          refine lv_topi (fun x126 ex126 => ?_)
          have hf := nm_el hf ex126
          refine lv_istore_n (lv' := [(3, .int x126), (0, .ref a0), (1, .int x1), (2, .int x2), (4, .int x4)]) hx hb dX10_order_67 rfl hl (by decide) rfl (fun ls hl => ?_)
          obtain ⟨x127, ex127⟩ : ∃ z : Int32, z = x4 + 1 := ⟨_, rfl⟩
          have hf := nm_el hf ex127
          refine lv_iinc (v := x127) (lv' := [(4, .int x127), (3, .int x126), (0, .ref a0), (1, .int x1), (2, .int x2)]) hx hb dX10_order_68 hl (k := 4) rfl (by rw [ex127, ki_1]) (by decide) rfl (fun ls hl => ?_)
          refine lv_goto (tgt := 28) hx hb dX10_order_71 (by decide) ?_
          exact ih _ _ _ _ _ _ (lv_sub hl [2, 3, 4, 1, 0] rfl) hw hf
set_option maxHeartbeats 4000000 in
set_option maxRecDepth 100000 in
theorem w_X10_order_h13 {p : Program} {l : Launch} {e : Env} {s : State} {m : MethodId} {args : Array Value} {below : List Frame} {meth : Method} {c : Code} {D : va_G} {E : Nat → ClassId} {tU : Nat} {m0 mE : XMem} {rE : Int32} (C : Cx p s m args c cX10_order 5 RX10 D E (Am m0) tU) (hr : meth.sig.returnType = ((Option.some FieldType.int))) (hk : meth.locks = false) (hnm : meth.name = yX10_order.name) {a0 : Nat} {x1 : Int32} (ta0 : mT m0 a0 = some (.inl 10)) {k89 : Int32 →  XMem → Option (Int32 × XMem)} {k97 :  XMem → Option (Int32 × XMem)} (hk89 : ∀ (y2 : Int32) (mu : XMem) (H : Heap) (locs : List Loc) (ls : Array Slot), lv_has ls 5 [(2, .int y2)] → Wd D E (Am m0) s (mT m0) mu H locs →   k89 y2 mu = some (rE, mE) → W p l e (rmN 3 0 0) s m args below meth c H locs 0 0 (MQ below (XQ D E (Am m0) (some (.int rE)) mE (mT mE = mT m0 ∧ True)) args s 0 0 (Am m0)) (F0 m 89 ls [])) (hk97 : ∀  (mu : XMem) (H : Heap) (locs : List Loc) (ls : Array Slot), lv_has ls 5 [(0, .ref a0)] → Wd D E (Am m0) s (mT m0) mu H locs →   k97  mu = some (rE, mE) → W p l e (rmN 3 0 0) s m args below meth c H locs 0 0 (MQ below (XQ D E (Am m0) (some (.int rE)) mE (mT mE = mT m0 ∧ True)) args s 0 0 (Am m0)) (F0 m 97 ls [])) : ∀ (n : Nat) (x2 : Int32) (mu : XMem) (H : Heap) (locs : List Loc) (ls : Array Slot), lv_has ls 5 [(0, .ref a0), (1, .int x1), (2, .int x2)] → Wd D E (Am m0) s (mT m0) mu H locs → f_X10_order_h13 a0 x1 k89 k97 n x2 mu = some (rE, mE) → W p l e (rmN 3 0 0) s m args below meth c H locs 0 0 (MQ below (XQ D E (Am m0) (some (.int rE)) mE (mT mE = mT m0 ∧ True)) args s 0 0 (Am m0)) (F0 m 13 ls []) := by
  have hx := C.1
  have hb := C.2.1
  intro n
  induction n with
  | zero =>
    intros
    rename_i hf
    cases hf
  | succ n ih =>
    intro x2 mu H locs ls hl hw hf
    rw [f_X10_order_h13] at hf
    refine lv_iload_n hx hb dX10_order_13 rfl (lv_at hl 2 rfl) ?_
    refine lv_aload_n hx hb dX10_order_14 rfl (lv_at hl 0 rfl) ?_
    obtain ⟨b108, eb108, hf⟩ := fo_el hf
    refine x_getR C hw fa_X10_7 (Or.inr ⟨_, rfl⟩) ta0 eb108 dX10_order_15 (fun tb108 => ?_)
    have tb108 : ∃ n, (mT m0) b108 = some (.inr (0, n)) := tb108
    refine lv_iconst hx hb dX10_order_18 ki_3 ?_
    obtain ⟨g109, hf⟩ := gd_el hf
    refine x_iald C hw tb108 g109 dX10_order_19 ?_
    refine lv_icmp_ge (tgt := 97) hx hb dX10_order_20 (by decide) (fun c => ?_) (fun c => ?_)
    · have hf := ifp hf c
      exact hk97 _ _ _ _ (lv_sub hl [0] rfl) hw hf
    · have hf := ifn hf c
      refine lv_iconst hx hb dX10_order_23 ki_0 ?_
      refine lv_istore_n (lv' := [(3, .int 0), (0, .ref a0), (1, .int x1), (2, .int x2)]) hx hb dX10_order_24 rfl hl (by decide) rfl (fun ls hl => ?_)
      refine lv_iconst hx hb dX10_order_25 ki_0 ?_
      refine lv_istore (lv' := [(4, .int 0), (3, .int 0), (0, .ref a0), (1, .int x1), (2, .int x2)]) hx hb dX10_order_26 hl (by decide) rfl (fun ls hl => ?_)
      refine w_X10_order_h28 C hr hk hnm ta0 ?_ 2000 _ _ _ _ _ _ (lv_sub hl [2, 3, 4, 1, 0] rfl) hw hf
      intro x111 m110 H locs ls hl hw hf
      refine lv_aload_n hx hb dX10_order_74 rfl (lv_at hl 0 rfl) ?_
      refine lv_iload_n hx hb dX10_order_75 rfl (lv_at hl 2 rfl) ?_
      refine lv_bipush hx hb dX10_order_76 kb_6 ?_
      obtain ⟨r113, m112, cm112, hf⟩ := b2_el (o := f_X10_ofHouse a0 x2 6 m110) hf
      refine x_callVi (As := [.int x2, .int 6]) (rest := []) C hl.1 hw cb_X10_197 cv_X10_ofHouse (k_X10_ofHouse hw.2.2.2.2 ta0 cm112) ta0 rfl rfl (by decide) ⟨Nat.le_refl _, Nat.le_refl _⟩ rfl (Nat.le_of_ble_eq_true rfl) dX10_order_78 (fun H locs hw tr113 => ?_)
      refine lv_if_le (tgt := 91) hx hb dX10_order_81 (by decide) (fun c => ?_) (fun c => ?_)
      · have hf := ifp hf c
        obtain ⟨x114, ex114⟩ : ∃ z : Int32, z = x2 + 1 := ⟨_, rfl⟩
        have hf := nm_el hf ex114
        refine lv_iinc (v := x114) (lv' := [(2, .int x114), (0, .ref a0), (1, .int x1), (3, .int x111)]) hx hb dX10_order_91 hl (k := 2) rfl (by rw [ex114, ki_1]) (by decide) rfl (fun ls hl => ?_)
        refine lv_goto (tgt := 13) hx hb dX10_order_94 (by decide) ?_
        exact ih _ _ _ _ _ (lv_sub hl [1, 2, 0] rfl) hw hf
      · have hf := ifn hf c
        refine lv_iload_n hx hb dX10_order_84 rfl (lv_at hl 3 rfl) ?_
        refine lv_iload_n hx hb dX10_order_85 rfl (lv_at hl 1 rfl) ?_
        refine lv_icmp_ne (tgt := 91) hx hb dX10_order_86 (by decide) (fun c => ?_) (fun c => ?_)
        · have hf := ifn hf c
          obtain ⟨x115, ex115⟩ : ∃ z : Int32, z = x2 + 1 := ⟨_, rfl⟩
          have hf := nm_el hf ex115
          refine lv_iinc (v := x115) (lv' := [(2, .int x115), (0, .ref a0), (1, .int x1), (3, .int x111)]) hx hb dX10_order_91 hl (k := 2) rfl (by rw [ex115, ki_1]) (by decide) rfl (fun ls hl => ?_)
          refine lv_goto (tgt := 13) hx hb dX10_order_94 (by decide) ?_
          exact ih _ _ _ _ _ (lv_sub hl [1, 2, 0] rfl) hw hf
        · have hf := ifp hf c
          exact hk89 _ _ _ _ _ (lv_sub hl [2] rfl) hw hf
set_option maxHeartbeats 4000000 in
set_option maxRecDepth 100000 in
theorem k_X10_order {l : Launch} {D : va_G} {E : Nat → ClassId} {tU : Nat} {τ : Nat → Option XTy} {a0 : Nat} {x1 : Int32} {m0 mE : XMem} {rE : Int32} (hm : mT m0 = τ) (ta0 : τ a0 = some (.inl 10)) (hf : f_X10_order a0 x1 m0 = some (rE, mE)) : Ct l yX10_order cX10_order 5 ((Option.some FieldType.int)) 3 0 0 D E tU [.ref a0, .int x1] m0 (some (.int rE)) mE (mT mE = mT m0 ∧ True) := by
  subst hm
  refine Ct.of (by decide) (Nat.le_of_ble_eq_true rfl) (fun p e s m below meth c ls C hr hk hnm hl hw => ?_)
  have hx := C.1
  have hb := C.2.1
  have hl : lv_has ls 5 [(0, .ref a0), (1, .int x1)] := hl
  unfold f_X10_order at hf
  refine lv_iload_n hx hb dX10_order_0 rfl (lv_at hl 1 rfl) ?_
  refine lv_if_ge (tgt := 11) hx hb dX10_order_1 (by decide) (fun c => ?_) (fun c => ?_)
  · have hf := ifp hf c
    refine lv_iconst hx hb dX10_order_11 ki_0 ?_
    refine lv_istore_n (lv' := [(2, .int 0), (0, .ref a0), (1, .int x1)]) hx hb dX10_order_12 rfl hl (by decide) rfl (fun ls hl => ?_)
    refine w_X10_order_h13 C hr hk hnm ta0 ?_ ?_ 2000 _ _ _ _ _ (lv_sub hl [1, 2, 0] rfl) hw hf
    · intro x102 m101 H locs ls hl hw hf
      refine lv_iload_n hx hb dX10_order_89 rfl (lv_at hl 0 rfl) ?_
      exact x_retI C hr hk hw  hf (by decide) (by decide) dX10_order_90
    · intro m103 H locs ls hl hw hf
      refine lv_aload_n hx hb dX10_order_97 rfl (lv_at hl 0 rfl) ?_
      refine lv_ldc hx hb C.2.2.2.1 (C.2.2.2.2.1 _ ki_X10_207) dX10_order_98 ?_
      obtain ⟨r105, m104, cm104, hf⟩ := b2_el (o := f_X10_finds a0 (-1000000004) m103) hf
      refine x_callVi (As := [.int (-1000000004)]) (rest := []) C hl.1 hw cb_X10_67 cv_X10_finds (k_X10_finds hw.2.2.2.2 ta0 cm104) ta0 rfl rfl (by decide) ⟨Nat.le_refl _, Nat.le_refl _⟩ rfl (Nat.le_of_ble_eq_true rfl) dX10_order_100 (fun H locs hw tr105 => ?_)
      exact x_retI C hr hk hw  hf (by decide) (by decide) dX10_order_103
  · have hf := ifn hf c
    refine lv_aload_n hx hb dX10_order_4 rfl (lv_at hl 0 rfl) ?_
    refine lv_ldc hx hb C.2.2.2.1 (C.2.2.2.2.1 _ ki_X10_61) dX10_order_5 ?_
    obtain ⟨r107, m106, cm106, hf⟩ := b2_el (o := f_X10_finds a0 (-1000000001) m0) hf
    refine x_callVi (As := [.int (-1000000001)]) (rest := []) C hl.1 hw cb_X10_67 cv_X10_finds (k_X10_finds hw.2.2.2.2 ta0 cm106) ta0 rfl rfl (by decide) ⟨Nat.le_refl _, Nat.le_refl _⟩ rfl (Nat.le_of_ble_eq_true rfl) dX10_order_7 (fun H locs hw tr107 => ?_)
    exact x_retI C hr hk hw  hf (by decide) (by decide) dX10_order_10
set_option maxHeartbeats 4000000 in
set_option maxRecDepth 100000 in
theorem w_X10_parted_h105 {p : Program} {l : Launch} {e : Env} {s : State} {m : MethodId} {args : Array Value} {below : List Frame} {meth : Method} {c : Code} {D : va_G} {E : Nat → ClassId} {tU : Nat} {m0 mE : XMem} {rE : Int32} (C : Cx p s m args c cX10_parted 8 RX10 D E (Am m0) tU) (hr : meth.sig.returnType = ((Option.some FieldType.int))) (hk : meth.locks = false) (hnm : meth.name = yX10_parted.name) {a0 : Nat} {x1 : Int32} {x3 : Int32} {x4 : Int32} (ta0 : mT m0 a0 = some (.inl 10)) {k180 : Int32 →  XMem → Option (Int32 × XMem)} (hk180 : ∀ (y5 : Int32) (mu : XMem) (H : Heap) (locs : List Loc) (ls : Array Slot), lv_has ls 8 [(0, .ref a0), (1, .int x1), (5, .int y5)] → Wd D E (Am m0) s (mT m0) mu H locs →   k180 y5 mu = some (rE, mE) → W p l e (rmN 7 0 0) s m args below meth c H locs 0 0 (MQ below (XQ D E (Am m0) (some (.int rE)) mE (mT mE = mT m0 ∧ True)) args s 0 0 (Am m0)) (F0 m 180 ls [])) : ∀ (n : Nat) (x5 : Int32) (x6 : Int32) (mu : XMem) (H : Heap) (locs : List Loc) (ls : Array Slot), lv_has ls 8 [(0, .ref a0), (1, .int x1), (3, .int x3), (4, .int x4), (5, .int x5), (6, .int x6)] → Wd D E (Am m0) s (mT m0) mu H locs → f_X10_parted_h105 a0 x1 x3 x4 k180 n x5 x6 mu = some (rE, mE) → W p l e (rmN 7 0 0) s m args below meth c H locs 0 0 (MQ below (XQ D E (Am m0) (some (.int rE)) mE (mT mE = mT m0 ∧ True)) args s 0 0 (Am m0)) (F0 m 105 ls []) := by
  have hx := C.1
  have hb := C.2.1
  intro n
  induction n with
  | zero =>
    intros
    rename_i hf
    cases hf
  | succ n ih =>
    intro x5 x6 mu H locs ls hl hw hf
    rw [f_X10_parted_h105] at hf
    refine lv_iload hx hb dX10_parted_105 (lv_at hl 5 rfl) ?_
    refine lv_bipush hx hb dX10_parted_107 kb_50 ?_
    refine lv_icmp_gt (tgt := 180) hx hb dX10_parted_109 (by decide) (fun c => ?_) (fun c => ?_)
    · have hf := ifp hf c
      exact hk180 _ _ _ _ _ (lv_sub hl [0, 1, 4] rfl) hw hf
    · have hf := ifn hf c
      refine lv_aload_n hx hb dX10_parted_112 rfl (lv_at hl 0 rfl) ?_
      refine lv_iload_n hx hb dX10_parted_113 rfl (lv_at hl 1 rfl) ?_
      refine lv_iload_n hx hb dX10_parted_114 rfl (lv_at hl 2 rfl) ?_
      refine lv_iconst hx hb dX10_parted_115 ki_m1 ?_
      refine lv_aload_n hx hb dX10_parted_116 rfl (lv_at hl 0 rfl) ?_
      obtain ⟨b134, eb134, hf⟩ := fo_el hf
      refine x_getR C hw fa_X10_7 (Or.inr ⟨_, rfl⟩) ta0 eb134 dX10_parted_117 (fun tb134 => ?_)
      have tb134 : ∃ n, (mT m0) b134 = some (.inr (0, n)) := tb134
      refine lv_iconst hx hb dX10_parted_120 ki_0 ?_
      obtain ⟨g135, hf⟩ := gd_el hf
      refine x_iald C hw tb134 g135 dX10_parted_121 ?_
      refine lv_iload hx hb dX10_parted_122 (lv_at hl 5 rfl) ?_
      refine lv_iadd hx hb dX10_parted_124 ?_
      refine lv_iconst hx hb dX10_parted_125 ki_1 ?_
      refine lv_isub hx hb dX10_parted_126 ?_
      obtain ⟨m136, cm136, hf⟩ := b1_el (o := f_X10_goes a0 x1 x3 (-1) (((mI mu b134 (Int32.toNatClampNeg 0)) + x6) - 1) mu) hf
      refine x_callVv (As := [.int x1, .int x3, .int (-1), .int (((mI mu b134 (Int32.toNatClampNeg 0)) + x6) - 1)]) (rest := []) C hl.1 hw cb_X10_103 cv_X10_goes (k_X10_goes hw.2.2.2.2 ta0 cm136) ta0 rfl rfl (by decide) ⟨Nat.le_refl _, Nat.le_refl _⟩ rfl (Nat.le_of_ble_eq_true rfl) dX10_parted_127 (fun H locs hw tm136 => ?_)
      refine lv_aload_n hx hb dX10_parted_130 rfl (lv_at hl 0 rfl) ?_
      obtain ⟨b137, eb137, hf⟩ := fo_el hf
      refine x_getR C hw fa_X10_46 (Or.inr ⟨_, rfl⟩) ta0 eb137 dX10_parted_131 (fun tb137 => ?_)
      have tb137 : ∃ n, (mT m0) b137 = some (.inr (0, n)) := tb137
      refine lv_iload hx hb dX10_parted_134 (lv_at hl 5 rfl) ?_
      obtain ⟨g138, hf⟩ := gd_el hf
      refine x_iald C hw tb137 g138 dX10_parted_136 ?_
      refine lv_aload_n hx hb dX10_parted_137 rfl (lv_at hl 0 rfl) ?_
      refine lv_iload_n hx hb dX10_parted_138 rfl (lv_at hl 1 rfl) ?_
      obtain ⟨r140, m139, cm139, hf⟩ := b2_el (o := f_X10_readOf a0 x1 m136) hf
      refine x_callVi (As := [.int x1]) (rest := [.int (mI m136 b137 (Int32.toNatClampNeg x6))]) C hl.1 hw cb_X10_115 cv_X10_readOf (k_X10_readOf hw.2.2.2.2 ta0 cm139) ta0 rfl rfl (by decide) ⟨Nat.le_refl _, Nat.le_refl _⟩ rfl (Nat.le_of_ble_eq_true rfl) dX10_parted_139 (fun H locs hw tr140 => ?_)
      refine lv_isub hx hb dX10_parted_142 ?_
      refine lv_topi (fun x141 ex141 => ?_)
      have hf := nm_el hf ex141
      refine lv_istore (lv' := [(7, .int x141), (0, .ref a0), (1, .int x1), (3, .int x3), (4, .int x4), (5, .int x5), (6, .int x6)]) hx hb dX10_parted_143 hl (by decide) rfl (fun ls hl => ?_)
      refine lv_iload hx hb dX10_parted_145 (lv_at hl 5 rfl) ?_
      refine lv_if_ne (tgt := 170) hx hb dX10_parted_147 (by decide) (fun c => ?_) (fun c => ?_)
      · have hf := ifn hf c
        refine lv_iload hx hb dX10_parted_170 (lv_at hl 5 rfl) ?_
        refine lv_istore (lv' := [(5, .int x5), (7, .int x141), (0, .ref a0), (1, .int x1), (3, .int x3), (4, .int x4), (6, .int x6)]) hx hb dX10_parted_172 hl (by decide) rfl (fun ls hl => ?_)
        obtain ⟨x142, ex142⟩ : ∃ z : Int32, z = x6 + 1 := ⟨_, rfl⟩
        have hf := nm_el hf ex142
        refine lv_iinc (v := x142) (lv' := [(6, .int x142), (5, .int x5), (7, .int x141), (0, .ref a0), (1, .int x1), (3, .int x3), (4, .int x4)]) hx hb dX10_parted_174 hl (k := 6) rfl (by rw [ex142, ki_1]) (by decide) rfl (fun ls hl => ?_)
        refine lv_goto (tgt := 105) hx hb dX10_parted_177 (by decide) ?_
        exact ih _ _ _ _ _ _ (lv_sub hl [3, 4, 5, 6, 1, 0] rfl) hw hf
      · have hf := ifp hf c
        refine lv_iload hx hb dX10_parted_150 (lv_at hl 0 rfl) ?_
        refine lv_iload hx hb dX10_parted_152 (lv_at hl 4 rfl) ?_
        refine lv_icmp_ge (tgt := 165) hx hb dX10_parted_154 (by decide) (fun c => ?_) (fun c => ?_)
        · have hf := ifp hf c
          refine lv_iload hx hb dX10_parted_165 (lv_at hl 6 rfl) ?_
          refine lv_goto (tgt := 172) hx hb dX10_parted_167 (by decide) ?_
          refine lv_istore (lv' := [(5, .int x6), (7, .int x141), (0, .ref a0), (1, .int x1), (3, .int x3), (4, .int x4), (6, .int x6)]) hx hb dX10_parted_172 hl (by decide) rfl (fun ls hl => ?_)
          obtain ⟨x143, ex143⟩ : ∃ z : Int32, z = x6 + 1 := ⟨_, rfl⟩
          have hf := nm_el hf ex143
          refine lv_iinc (v := x143) (lv' := [(6, .int x143), (5, .int x6), (7, .int x141), (0, .ref a0), (1, .int x1), (3, .int x3), (4, .int x4)]) hx hb dX10_parted_174 hl (k := 6) rfl (by rw [ex143, ki_1]) (by decide) rfl (fun ls hl => ?_)
          refine lv_goto (tgt := 105) hx hb dX10_parted_177 (by decide) ?_
          exact ih _ _ _ _ _ _ (lv_sub hl [3, 4, 5, 6, 1, 0] rfl) hw hf
        · have hf := ifn hf c
          refine lv_iload hx hb dX10_parted_157 (lv_at hl 0 rfl) ?_
          refine lv_ineg hx hb dX10_parted_159 ?_
          refine lv_iload hx hb dX10_parted_160 (lv_at hl 4 rfl) ?_
          refine lv_icmp_lt (tgt := 170) hx hb dX10_parted_162 (by decide) (fun c => ?_) (fun c => ?_)
          · have hf := ifp hf c
            refine lv_iload hx hb dX10_parted_170 (lv_at hl 5 rfl) ?_
            refine lv_istore (lv' := [(5, .int x5), (7, .int x141), (0, .ref a0), (1, .int x1), (3, .int x3), (4, .int x4), (6, .int x6)]) hx hb dX10_parted_172 hl (by decide) rfl (fun ls hl => ?_)
            obtain ⟨x144, ex144⟩ : ∃ z : Int32, z = x6 + 1 := ⟨_, rfl⟩
            have hf := nm_el hf ex144
            refine lv_iinc (v := x144) (lv' := [(6, .int x144), (5, .int x5), (7, .int x141), (0, .ref a0), (1, .int x1), (3, .int x3), (4, .int x4)]) hx hb dX10_parted_174 hl (k := 6) rfl (by rw [ex144, ki_1]) (by decide) rfl (fun ls hl => ?_)
            refine lv_goto (tgt := 105) hx hb dX10_parted_177 (by decide) ?_
            exact ih _ _ _ _ _ _ (lv_sub hl [3, 4, 5, 6, 1, 0] rfl) hw hf
          · have hf := ifn hf c
            refine lv_iload hx hb dX10_parted_165 (lv_at hl 6 rfl) ?_
            refine lv_goto (tgt := 172) hx hb dX10_parted_167 (by decide) ?_
            refine lv_istore (lv' := [(5, .int x6), (7, .int x141), (0, .ref a0), (1, .int x1), (3, .int x3), (4, .int x4), (6, .int x6)]) hx hb dX10_parted_172 hl (by decide) rfl (fun ls hl => ?_)
            obtain ⟨x145, ex145⟩ : ∃ z : Int32, z = x6 + 1 := ⟨_, rfl⟩
            have hf := nm_el hf ex145
            refine lv_iinc (v := x145) (lv' := [(6, .int x145), (5, .int x6), (7, .int x141), (0, .ref a0), (1, .int x1), (3, .int x3), (4, .int x4)]) hx hb dX10_parted_174 hl (k := 6) rfl (by rw [ex145, ki_1]) (by decide) rfl (fun ls hl => ?_)
            refine lv_goto (tgt := 105) hx hb dX10_parted_177 (by decide) ?_
            exact ih _ _ _ _ _ _ (lv_sub hl [3, 4, 5, 6, 1, 0] rfl) hw hf
set_option maxHeartbeats 4000000 in
set_option maxRecDepth 100000 in
theorem w_X10_parted_h51 {p : Program} {l : Launch} {e : Env} {s : State} {m : MethodId} {args : Array Value} {below : List Frame} {meth : Method} {c : Code} {D : va_G} {E : Nat → ClassId} {tU : Nat} {m0 mE : XMem} {rE : Int32} (C : Cx p s m args c cX10_parted 8 RX10 D E (Am m0) tU) (hr : meth.sig.returnType = ((Option.some FieldType.int))) (hk : meth.locks = false) (hnm : meth.name = yX10_parted.name) {a0 : Nat} {x1 : Int32} {x2 : Int32} {x3 : Int32} {x4 : Int32} (ta0 : mT m0 a0 = some (.inl 10)) {k94 :  XMem → Option (Int32 × XMem)} (hk94 : ∀  (mu : XMem) (H : Heap) (locs : List Loc) (ls : Array Slot), lv_has ls 8 [(0, .ref a0), (1, .int x1), (3, .int x3), (4, .int x4)] → Wd D E (Am m0) s (mT m0) mu H locs →   k94  mu = some (rE, mE) → W p l e (rmN 7 0 0) s m args below meth c H locs 0 0 (MQ below (XQ D E (Am m0) (some (.int rE)) mE (mT mE = mT m0 ∧ True)) args s 0 0 (Am m0)) (F0 m 94 ls [])) : ∀ (n : Nat) (x5 : Int32) (mu : XMem) (H : Heap) (locs : List Loc) (ls : Array Slot), lv_has ls 8 [(0, .ref a0), (1, .int x1), (2, .int x2), (3, .int x3), (4, .int x4), (5, .int x5)] → Wd D E (Am m0) s (mT m0) mu H locs → f_X10_parted_h51 a0 x1 x2 x3 x4 k94 n x5 mu = some (rE, mE) → W p l e (rmN 7 0 0) s m args below meth c H locs 0 0 (MQ below (XQ D E (Am m0) (some (.int rE)) mE (mT mE = mT m0 ∧ True)) args s 0 0 (Am m0)) (F0 m 51 ls []) := by
  have hx := C.1
  have hb := C.2.1
  intro n
  induction n with
  | zero =>
    intros
    rename_i hf
    cases hf
  | succ n ih =>
    intro x5 mu H locs ls hl hw hf
    rw [f_X10_parted_h51] at hf
    refine lv_iload hx hb dX10_parted_51 (lv_at hl 5 rfl) ?_
    refine lv_bipush hx hb dX10_parted_53 kb_50 ?_
    refine lv_icmp_gt (tgt := 94) hx hb dX10_parted_55 (by decide) (fun c => ?_) (fun c => ?_)
    · have hf := ifp hf c
      exact hk94 _ _ _ _ (lv_sub hl [0, 1, 3, 4] rfl) hw hf
    · have hf := ifn hf c
      refine lv_aload_n hx hb dX10_parted_58 rfl (lv_at hl 0 rfl) ?_
      refine lv_iload_n hx hb dX10_parted_59 rfl (lv_at hl 1 rfl) ?_
      refine lv_iload_n hx hb dX10_parted_60 rfl (lv_at hl 2 rfl) ?_
      refine lv_iconst hx hb dX10_parted_61 ki_m1 ?_
      refine lv_aload_n hx hb dX10_parted_62 rfl (lv_at hl 0 rfl) ?_
      obtain ⟨b125, eb125, hf⟩ := fo_el hf
      refine x_getR C hw fa_X10_7 (Or.inr ⟨_, rfl⟩) ta0 eb125 dX10_parted_63 (fun tb125 => ?_)
      have tb125 : ∃ n, (mT m0) b125 = some (.inr (0, n)) := tb125
      refine lv_iconst hx hb dX10_parted_66 ki_0 ?_
      obtain ⟨g126, hf⟩ := gd_el hf
      refine x_iald C hw tb125 g126 dX10_parted_67 ?_
      refine lv_iload hx hb dX10_parted_68 (lv_at hl 5 rfl) ?_
      refine lv_iadd hx hb dX10_parted_70 ?_
      refine lv_iconst hx hb dX10_parted_71 ki_1 ?_
      refine lv_isub hx hb dX10_parted_72 ?_
      obtain ⟨m127, cm127, hf⟩ := b1_el (o := f_X10_goes a0 x1 x2 (-1) (((mI mu b125 (Int32.toNatClampNeg 0)) + x5) - 1) mu) hf
      refine x_callVv (As := [.int x1, .int x2, .int (-1), .int (((mI mu b125 (Int32.toNatClampNeg 0)) + x5) - 1)]) (rest := []) C hl.1 hw cb_X10_103 cv_X10_goes (k_X10_goes hw.2.2.2.2 ta0 cm127) ta0 rfl rfl (by decide) ⟨Nat.le_refl _, Nat.le_refl _⟩ rfl (Nat.le_of_ble_eq_true rfl) dX10_parted_73 (fun H locs hw tm127 => ?_)
      refine lv_aload_n hx hb dX10_parted_76 rfl (lv_at hl 0 rfl) ?_
      obtain ⟨b128, eb128, hf⟩ := fo_el hf
      refine x_getR C hw fa_X10_46 (Or.inr ⟨_, rfl⟩) ta0 eb128 dX10_parted_77 (fun tb128 => ?_)
      have tb128 : ∃ n, (mT m0) b128 = some (.inr (0, n)) := tb128
      refine lv_iload hx hb dX10_parted_80 (lv_at hl 5 rfl) ?_
      refine lv_aload_n hx hb dX10_parted_82 rfl (lv_at hl 0 rfl) ?_
      refine lv_iload_n hx hb dX10_parted_83 rfl (lv_at hl 1 rfl) ?_
      obtain ⟨r130, m129, cm129, hf⟩ := b2_el (o := f_X10_readOf a0 x1 m127) hf
      refine x_callVi (As := [.int x1]) (rest := [.int x5, .ref b128]) C hl.1 hw cb_X10_115 cv_X10_readOf (k_X10_readOf hw.2.2.2.2 ta0 cm129) ta0 rfl rfl (by decide) ⟨Nat.le_refl _, Nat.le_refl _⟩ rfl (Nat.le_of_ble_eq_true rfl) dX10_parted_84 (fun H locs hw tr130 => ?_)
      obtain ⟨g131, hf⟩ := gd_el hf
      refine x_iast C hw tb128 g131 dX10_parted_87 (fun m132 H locs em132 hw => ?_)
      have hf := nm_el hf em132
      obtain ⟨x133, ex133⟩ : ∃ z : Int32, z = x5 + 1 := ⟨_, rfl⟩
      have hf := nm_el hf ex133
      refine lv_iinc (v := x133) (lv' := [(5, .int x133), (0, .ref a0), (1, .int x1), (2, .int x2), (3, .int x3), (4, .int x4)]) hx hb dX10_parted_88 hl (k := 5) rfl (by rw [ex133, ki_1]) (by decide) rfl (fun ls hl => ?_)
      refine lv_goto (tgt := 51) hx hb dX10_parted_91 (by decide) ?_
      exact ih _ _ _ _ _ (lv_sub hl [1, 2, 3, 4, 5, 0] rfl) hw hf
set_option maxHeartbeats 4000000 in
set_option maxRecDepth 100000 in
theorem k_X10_parted {l : Launch} {D : va_G} {E : Nat → ClassId} {tU : Nat} {τ : Nat → Option XTy} {a0 : Nat} {x1 : Int32} {x2 : Int32} {x3 : Int32} {x4 : Int32} {m0 mE : XMem} {rE : Int32} (hm : mT m0 = τ) (ta0 : τ a0 = some (.inl 10)) (hf : f_X10_parted a0 x1 x2 x3 x4 m0 = some (rE, mE)) : Ct l yX10_parted cX10_parted 8 ((Option.some FieldType.int)) 7 0 0 D E tU [.ref a0, .int x1, .int x2, .int x3, .int x4] m0 (some (.int rE)) mE (mT mE = mT m0 ∧ True) := by
  subst hm
  refine Ct.of (by decide) (Nat.le_of_ble_eq_true rfl) (fun p e s m below meth c ls C hr hk hnm hl hw => ?_)
  have hx := C.1
  have hb := C.2.1
  have hl : lv_has ls 8 [(0, .ref a0), (1, .int x1), (2, .int x2), (3, .int x3), (4, .int x4)] := hl
  unfold f_X10_parted at hf
  refine lv_aload_n hx hb dX10_parted_0 rfl (lv_at hl 0 rfl) ?_
  refine lv_iload_n hx hb dX10_parted_1 rfl (lv_at hl 1 rfl) ?_
  obtain ⟨r102, m101, cm101, hf⟩ := b2_el (o := f_X10_isCell a0 x1 m0) hf
  refine x_callVi (As := [.int x1]) (rest := []) C hl.1 hw cb_X10_76 cv_X10_isCell (k_X10_isCell hw.2.2.2.2 ta0 cm101) ta0 rfl rfl (by decide) ⟨Nat.le_refl _, Nat.le_refl _⟩ rfl (Nat.le_of_ble_eq_true rfl) dX10_parted_2 (fun H locs hw tr102 => ?_)
  refine lv_if_eq (tgt := 36) hx hb dX10_parted_5 (by decide) (fun c => ?_) (fun c => ?_)
  · have hf := ifp hf c
    refine lv_aload_n hx hb dX10_parted_36 rfl (lv_at hl 0 rfl) ?_
    refine lv_ldc hx hb C.2.2.2.1 (C.2.2.2.2.1 _ ki_X10_61) dX10_parted_37 ?_
    obtain ⟨r104, m103, cm103, hf⟩ := b2_el (o := f_X10_finds a0 (-1000000001) m101) hf
    refine x_callVi (As := [.int (-1000000001)]) (rest := []) C hl.1 hw cb_X10_67 cv_X10_finds (k_X10_finds hw.2.2.2.2 ta0 cm103) ta0 rfl rfl (by decide) ⟨Nat.le_refl _, Nat.le_refl _⟩ rfl (Nat.le_of_ble_eq_true rfl) dX10_parted_39 (fun H locs hw tr104 => ?_)
    exact x_retI C hr hk hw  hf (by decide) (by decide) dX10_parted_42
  · have hf := ifn hf c
    refine lv_aload_n hx hb dX10_parted_8 rfl (lv_at hl 0 rfl) ?_
    refine lv_iload_n hx hb dX10_parted_9 rfl (lv_at hl 2 rfl) ?_
    obtain ⟨r106, m105, cm105, hf⟩ := b2_el (o := f_X10_isLawOrNone a0 x2 m101) hf
    refine x_callVi (As := [.int x2]) (rest := []) C hl.1 hw cb_X10_187 cv_X10_isLawOrNone (k_X10_isLawOrNone hw.2.2.2.2 ta0 cm105) ta0 rfl rfl (by decide) ⟨Nat.le_refl _, Nat.le_refl _⟩ rfl (Nat.le_of_ble_eq_true rfl) dX10_parted_10 (fun H locs hw tr106 => ?_)
    refine lv_if_eq (tgt := 36) hx hb dX10_parted_13 (by decide) (fun c => ?_) (fun c => ?_)
    · have hf := ifp hf c
      refine lv_aload_n hx hb dX10_parted_36 rfl (lv_at hl 0 rfl) ?_
      refine lv_ldc hx hb C.2.2.2.1 (C.2.2.2.2.1 _ ki_X10_61) dX10_parted_37 ?_
      obtain ⟨r108, m107, cm107, hf⟩ := b2_el (o := f_X10_finds a0 (-1000000001) m105) hf
      refine x_callVi (As := [.int (-1000000001)]) (rest := []) C hl.1 hw cb_X10_67 cv_X10_finds (k_X10_finds hw.2.2.2.2 ta0 cm107) ta0 rfl rfl (by decide) ⟨Nat.le_refl _, Nat.le_refl _⟩ rfl (Nat.le_of_ble_eq_true rfl) dX10_parted_39 (fun H locs hw tr108 => ?_)
      exact x_retI C hr hk hw  hf (by decide) (by decide) dX10_parted_42
    · have hf := ifn hf c
      refine lv_aload_n hx hb dX10_parted_16 rfl (lv_at hl 0 rfl) ?_
      refine lv_iload_n hx hb dX10_parted_17 rfl (lv_at hl 3 rfl) ?_
      obtain ⟨r110, m109, cm109, hf⟩ := b2_el (o := f_X10_isLawOrNone a0 x3 m105) hf
      refine x_callVi (As := [.int x3]) (rest := []) C hl.1 hw cb_X10_187 cv_X10_isLawOrNone (k_X10_isLawOrNone hw.2.2.2.2 ta0 cm109) ta0 rfl rfl (by decide) ⟨Nat.le_refl _, Nat.le_refl _⟩ rfl (Nat.le_of_ble_eq_true rfl) dX10_parted_18 (fun H locs hw tr110 => ?_)
      refine lv_if_eq (tgt := 36) hx hb dX10_parted_21 (by decide) (fun c => ?_) (fun c => ?_)
      · have hf := ifp hf c
        refine lv_aload_n hx hb dX10_parted_36 rfl (lv_at hl 0 rfl) ?_
        refine lv_ldc hx hb C.2.2.2.1 (C.2.2.2.2.1 _ ki_X10_61) dX10_parted_37 ?_
        obtain ⟨r112, m111, cm111, hf⟩ := b2_el (o := f_X10_finds a0 (-1000000001) m109) hf
        refine x_callVi (As := [.int (-1000000001)]) (rest := []) C hl.1 hw cb_X10_67 cv_X10_finds (k_X10_finds hw.2.2.2.2 ta0 cm111) ta0 rfl rfl (by decide) ⟨Nat.le_refl _, Nat.le_refl _⟩ rfl (Nat.le_of_ble_eq_true rfl) dX10_parted_39 (fun H locs hw tr112 => ?_)
        exact x_retI C hr hk hw  hf (by decide) (by decide) dX10_parted_42
      · have hf := ifn hf c
        refine lv_iload hx hb dX10_parted_24 (lv_at hl 4 rfl) ?_
        refine lv_iconst hx hb dX10_parted_26 ki_1 ?_
        refine lv_sipush hx hb dX10_parted_27 ks_9999 ?_
        obtain ⟨r114, m113, cm113, hf⟩ := b2_el (o := f_X10_within x4 1 9999 m109) hf
        refine x_callSi (As := [.int x4, .int 1, .int 9999]) (rest := []) C hl.1 hw cb_X10_62 cs_X10_within (k_X10_within hw.2.2.2.2  cm113) rfl (by decide) ⟨Nat.le_refl _, Nat.le_refl _⟩ rfl (Nat.le_of_ble_eq_true rfl) dX10_parted_30 (fun H locs hw tr114 => ?_)
        refine lv_if_ne (tgt := 43) hx hb dX10_parted_33 (by decide) (fun c => ?_) (fun c => ?_)
        · have hf := ifn hf c
          refine lv_aload_n hx hb dX10_parted_43 rfl (lv_at hl 0 rfl) ?_
          refine lv_iload_n hx hb dX10_parted_44 rfl (lv_at hl 1 rfl) ?_
          obtain ⟨m115, cm115, hf⟩ := b1_el (o := f_X10_saves a0 x1 m113) hf
          refine x_callVv (As := [.int x1]) (rest := []) C hl.1 hw cb_X10_216 cv_X10_saves (k_X10_saves hw.2.2.2.2 ta0 cm115) ta0 rfl rfl (by decide) ⟨Nat.le_refl _, Nat.le_refl _⟩ rfl (Nat.le_of_ble_eq_true rfl) dX10_parted_45 (fun H locs hw tm115 => ?_)
          refine lv_iconst hx hb dX10_parted_48 ki_1 ?_
          refine lv_istore (lv' := [(5, .int 1), (0, .ref a0), (1, .int x1), (2, .int x2), (3, .int x3), (4, .int x4)]) hx hb dX10_parted_49 hl (by decide) rfl (fun ls hl => ?_)
          refine w_X10_parted_h51 C hr hk hnm ta0 ?_ 2000 _ _ _ _ _ (lv_sub hl [1, 2, 3, 4, 5, 0] rfl) hw hf
          intro m116 H locs ls hl hw hf
          refine lv_aload_n hx hb dX10_parted_94 rfl (lv_at hl 0 rfl) ?_
          refine lv_iload_n hx hb dX10_parted_95 rfl (lv_at hl 1 rfl) ?_
          obtain ⟨m117, cm117, hf⟩ := b1_el (o := f_X10_brings a0 x1 m116) hf
          refine x_callVv (As := [.int x1]) (rest := []) C hl.1 hw cb_X10_225 cv_X10_brings (k_X10_brings hw.2.2.2.2 ta0 cm117) ta0 rfl rfl (by decide) ⟨Nat.le_refl _, Nat.le_refl _⟩ rfl (Nat.le_of_ble_eq_true rfl) dX10_parted_96 (fun H locs hw tm117 => ?_)
          refine lv_iconst hx hb dX10_parted_99 ki_0 ?_
          refine lv_istore (lv' := [(5, .int 0), (0, .ref a0), (1, .int x1), (3, .int x3), (4, .int x4)]) hx hb dX10_parted_100 hl (by decide) rfl (fun ls hl => ?_)
          refine lv_iconst hx hb dX10_parted_102 ki_1 ?_
          refine lv_istore (lv' := [(6, .int 1), (5, .int 0), (0, .ref a0), (1, .int x1), (3, .int x3), (4, .int x4)]) hx hb dX10_parted_103 hl (by decide) rfl (fun ls hl => ?_)
          refine w_X10_parted_h105 C hr hk hnm ta0 ?_ 2000 _ _ _ _ _ _ (lv_sub hl [2, 3, 4, 5, 1, 0] rfl) hw hf
          intro x119 m118 H locs ls hl hw hf
          refine lv_aload_n hx hb dX10_parted_180 rfl (lv_at hl 0 rfl) ?_
          refine lv_iload_n hx hb dX10_parted_181 rfl (lv_at hl 1 rfl) ?_
          obtain ⟨m120, cm120, hf⟩ := b1_el (o := f_X10_brings a0 x1 m118) hf
          refine x_callVv (As := [.int x1]) (rest := []) C hl.1 hw cb_X10_225 cv_X10_brings (k_X10_brings hw.2.2.2.2 ta0 cm120) ta0 rfl rfl (by decide) ⟨Nat.le_refl _, Nat.le_refl _⟩ rfl (Nat.le_of_ble_eq_true rfl) dX10_parted_182 (fun H locs hw tm120 => ?_)
          refine lv_iload hx hb dX10_parted_185 (lv_at hl 2 rfl) ?_
          refine lv_if_ne (tgt := 199) hx hb dX10_parted_187 (by decide) (fun c => ?_) (fun c => ?_)
          · have hf := ifn hf c
            refine lv_iload hx hb dX10_parted_199 (lv_at hl 2 rfl) ?_
            exact x_retI C hr hk hw  hf (by decide) (by decide) dX10_parted_201
          · have hf := ifp hf c
            refine lv_aload_n hx hb dX10_parted_190 rfl (lv_at hl 0 rfl) ?_
            refine lv_ldc hx hb C.2.2.2.1 (C.2.2.2.2.1 _ ki_X10_207) dX10_parted_191 ?_
            obtain ⟨r122, m121, cm121, hf⟩ := b2_el (o := f_X10_finds a0 (-1000000004) m120) hf
            refine x_callVi (As := [.int (-1000000004)]) (rest := []) C hl.1 hw cb_X10_67 cv_X10_finds (k_X10_finds hw.2.2.2.2 ta0 cm121) ta0 rfl rfl (by decide) ⟨Nat.le_refl _, Nat.le_refl _⟩ rfl (Nat.le_of_ble_eq_true rfl) dX10_parted_193 (fun H locs hw tr122 => ?_)
            refine lv_goto (tgt := 201) hx hb dX10_parted_196 (by decide) ?_
            exact x_retI C hr hk hw  hf (by decide) (by decide) dX10_parted_201
        · have hf := ifp hf c
          refine lv_aload_n hx hb dX10_parted_36 rfl (lv_at hl 0 rfl) ?_
          refine lv_ldc hx hb C.2.2.2.1 (C.2.2.2.2.1 _ ki_X10_61) dX10_parted_37 ?_
          obtain ⟨r124, m123, cm123, hf⟩ := b2_el (o := f_X10_finds a0 (-1000000001) m113) hf
          refine x_callVi (As := [.int (-1000000001)]) (rest := []) C hl.1 hw cb_X10_67 cv_X10_finds (k_X10_finds hw.2.2.2.2 ta0 cm123) ta0 rfl rfl (by decide) ⟨Nat.le_refl _, Nat.le_refl _⟩ rfl (Nat.le_of_ble_eq_true rfl) dX10_parted_39 (fun H locs hw tr124 => ?_)
          exact x_retI C hr hk hw  hf (by decide) (by decide) dX10_parted_42
set_option maxHeartbeats 4000000 in
set_option maxRecDepth 100000 in
theorem k_X10_power {l : Launch} {D : va_G} {E : Nat → ClassId} {tU : Nat} {τ : Nat → Option XTy} {a0 : Nat} {x1 : Int32} {x2 : Int32} {m0 mE : XMem} {rE : Int32} (hm : mT m0 = τ) (ta0 : τ a0 = some (.inl 10)) (hf : f_X10_power a0 x1 x2 m0 = some (rE, mE)) : Ct l yX10_power cX10_power 4 ((Option.some FieldType.int)) 3 0 0 D E tU [.ref a0, .int x1, .int x2] m0 (some (.int rE)) mE (mT mE = mT m0 ∧ True) := by
  subst hm
  refine Ct.of (by decide) (Nat.le_of_ble_eq_true rfl) (fun p e s m below meth c ls C hr hk hnm hl hw => ?_)
  have hx := C.1
  have hb := C.2.1
  have hl : lv_has ls 4 [(0, .ref a0), (1, .int x1), (2, .int x2)] := hl
  unfold f_X10_power at hf
  refine lv_aload_n hx hb dX10_power_0 rfl (lv_at hl 0 rfl) ?_
  refine lv_iload_n hx hb dX10_power_1 rfl (lv_at hl 1 rfl) ?_
  obtain ⟨r102, m101, cm101, hf⟩ := b2_el (o := f_X10_isCell a0 x1 m0) hf
  refine x_callVi (As := [.int x1]) (rest := []) C hl.1 hw cb_X10_76 cv_X10_isCell (k_X10_isCell hw.2.2.2.2 ta0 cm101) ta0 rfl rfl (by decide) ⟨Nat.le_refl _, Nat.le_refl _⟩ rfl (Nat.le_of_ble_eq_true rfl) dX10_power_2 (fun H locs hw tr102 => ?_)
  refine lv_if_eq (tgt := 19) hx hb dX10_power_5 (by decide) (fun c => ?_) (fun c => ?_)
  · have hf := ifp hf c
    refine lv_aload_n hx hb dX10_power_19 rfl (lv_at hl 0 rfl) ?_
    refine lv_ldc hx hb C.2.2.2.1 (C.2.2.2.2.1 _ ki_X10_61) dX10_power_20 ?_
    obtain ⟨r104, m103, cm103, hf⟩ := b2_el (o := f_X10_finds a0 (-1000000001) m101) hf
    refine x_callVi (As := [.int (-1000000001)]) (rest := []) C hl.1 hw cb_X10_67 cv_X10_finds (k_X10_finds hw.2.2.2.2 ta0 cm103) ta0 rfl rfl (by decide) ⟨Nat.le_refl _, Nat.le_refl _⟩ rfl (Nat.le_of_ble_eq_true rfl) dX10_power_22 (fun H locs hw tr104 => ?_)
    exact x_retI C hr hk hw  hf (by decide) (by decide) dX10_power_25
  · have hf := ifn hf c
    refine lv_iload_n hx hb dX10_power_8 rfl (lv_at hl 2 rfl) ?_
    refine lv_iconst hx hb dX10_power_9 ki_0 ?_
    refine lv_sipush hx hb dX10_power_10 ks_9999 ?_
    obtain ⟨r106, m105, cm105, hf⟩ := b2_el (o := f_X10_within x2 0 9999 m101) hf
    refine x_callSi (As := [.int x2, .int 0, .int 9999]) (rest := []) C hl.1 hw cb_X10_62 cs_X10_within (k_X10_within hw.2.2.2.2  cm105) rfl (by decide) ⟨Nat.le_refl _, Nat.le_refl _⟩ rfl (Nat.le_of_ble_eq_true rfl) dX10_power_13 (fun H locs hw tr106 => ?_)
    refine lv_if_ne (tgt := 26) hx hb dX10_power_16 (by decide) (fun c => ?_) (fun c => ?_)
    · have hf := ifn hf c
      refine lv_aload_n hx hb dX10_power_26 rfl (lv_at hl 0 rfl) ?_
      refine lv_iload_n hx hb dX10_power_27 rfl (lv_at hl 1 rfl) ?_
      refine lv_iconst hx hb dX10_power_28 ki_1 ?_
      obtain ⟨r108, m107, cm107, hf⟩ := b2_el (o := f_X10_ofCell a0 x1 1 m105) hf
      refine x_callVi (As := [.int x1, .int 1]) (rest := []) C hl.1 hw cb_X10_80 cv_X10_ofCell (k_X10_ofCell hw.2.2.2.2 ta0 cm107) ta0 rfl rfl (by decide) ⟨Nat.le_refl _, Nat.le_refl _⟩ rfl (Nat.le_of_ble_eq_true rfl) dX10_power_29 (fun H locs hw tr108 => ?_)
      refine lv_istore_n (lv' := [(3, .int r108), (0, .ref a0), (1, .int x1), (2, .int x2)]) hx hb dX10_power_32 rfl hl (by decide) rfl (fun ls hl => ?_)
      refine lv_aload_n hx hb dX10_power_33 rfl (lv_at hl 1 rfl) ?_
      refine lv_iload_n hx hb dX10_power_34 rfl (lv_at hl 2 rfl) ?_
      refine lv_iconst hx hb dX10_power_35 ki_1 ?_
      refine lv_iload_n hx hb dX10_power_36 rfl (lv_at hl 3 rfl) ?_
      obtain ⟨m109, cm109, hf⟩ := b1_el (o := f_X10_puts a0 x1 1 x2 m107) hf
      refine x_callVv (As := [.int x1, .int 1, .int x2]) (rest := []) C hl.1 hw cb_X10_72 cv_X10_puts (k_X10_puts hw.2.2.2.2 ta0 cm109) ta0 rfl rfl (by decide) ⟨Nat.le_refl _, Nat.le_refl _⟩ rfl (Nat.le_of_ble_eq_true rfl) dX10_power_37 (fun H locs hw tm109 => ?_)
      refine lv_iload_n hx hb dX10_power_40 rfl (lv_at hl 0 rfl) ?_
      exact x_retI C hr hk hw  hf (by decide) (by decide) dX10_power_41
    · have hf := ifp hf c
      refine lv_aload_n hx hb dX10_power_19 rfl (lv_at hl 0 rfl) ?_
      refine lv_ldc hx hb C.2.2.2.1 (C.2.2.2.2.1 _ ki_X10_61) dX10_power_20 ?_
      obtain ⟨r111, m110, cm110, hf⟩ := b2_el (o := f_X10_finds a0 (-1000000001) m105) hf
      refine x_callVi (As := [.int (-1000000001)]) (rest := []) C hl.1 hw cb_X10_67 cv_X10_finds (k_X10_finds hw.2.2.2.2 ta0 cm110) ta0 rfl rfl (by decide) ⟨Nat.le_refl _, Nat.le_refl _⟩ rfl (Nat.le_of_ble_eq_true rfl) dX10_power_22 (fun H locs hw tr111 => ?_)
      exact x_retI C hr hk hw  hf (by decide) (by decide) dX10_power_25
set_option maxHeartbeats 4000000 in
set_option maxRecDepth 100000 in
theorem w_X10_read_h55 {p : Program} {l : Launch} {e : Env} {s : State} {m : MethodId} {args : Array Value} {below : List Frame} {meth : Method} {c : Code} {D : va_G} {E : Nat → ClassId} {tU : Nat} {m0 mE : XMem} {rE : Int32} (C : Cx p s m args c cX10_read 5 RX10 D E (Am m0) tU) (hr : meth.sig.returnType = ((Option.some FieldType.int))) (hk : meth.locks = false) (hnm : meth.name = yX10_read.name) {a0 : Nat} {x1 : Int32} {x2 : Int32} (ta0 : mT m0 a0 = some (.inl 10)) {k130 : Int32 →  XMem → Option (Int32 × XMem)} (hk130 : ∀ (y3 : Int32) (mu : XMem) (H : Heap) (locs : List Loc) (ls : Array Slot), lv_has ls 5 [(0, .ref a0), (2, .int x2), (3, .int y3)] → Wd D E (Am m0) s (mT m0) mu H locs →   k130 y3 mu = some (rE, mE) → W p l e (rmN 7 0 0) s m args below meth c H locs 0 0 (MQ below (XQ D E (Am m0) (some (.int rE)) mE (mT mE = mT m0 ∧ True)) args s 0 0 (Am m0)) (F0 m 130 ls [])) : ∀ (n : Nat) (x3 : Int32) (x4 : Int32) (mu : XMem) (H : Heap) (locs : List Loc) (ls : Array Slot), lv_has ls 5 [(0, .ref a0), (1, .int x1), (2, .int x2), (3, .int x3), (4, .int x4)] → Wd D E (Am m0) s (mT m0) mu H locs → f_X10_read_h55 a0 x1 x2 k130 n x3 x4 mu = some (rE, mE) → W p l e (rmN 7 0 0) s m args below meth c H locs 0 0 (MQ below (XQ D E (Am m0) (some (.int rE)) mE (mT mE = mT m0 ∧ True)) args s 0 0 (Am m0)) (F0 m 55 ls []) := by
  have hx := C.1
  have hb := C.2.1
  intro n
  induction n with
  | zero =>
    intros
    rename_i hf
    cases hf
  | succ n ih =>
    intro x3 x4 mu H locs ls hl hw hf
    rw [f_X10_read_h55] at hf
    refine lv_iload hx hb dX10_read_55 (lv_at hl 4 rfl) ?_
    refine lv_aload_n hx hb dX10_read_57 rfl (lv_at hl 0 rfl) ?_
    obtain ⟨b117, eb117, hf⟩ := fo_el hf
    refine x_getR C hw fa_X10_52 (Or.inr ⟨_, rfl⟩) ta0 eb117 dX10_read_58 (fun tb117 => ?_)
    have tb117 : ∃ n, (mT m0) b117 = some (.inr (0, n)) := tb117
    refine lv_iload_n hx hb dX10_read_61 rfl (lv_at hl 1 rfl) ?_
    obtain ⟨g118, hf⟩ := gd_el hf
    refine x_iald C hw tb117 g118 dX10_read_62 ?_
    refine lv_icmp_ge (tgt := 130) hx hb dX10_read_63 (by decide) (fun c => ?_) (fun c => ?_)
    · have hf := ifp hf c
      exact hk130 _ _ _ _ _ (lv_sub hl [0, 2, 3] rfl) hw hf
    · have hf := ifn hf c
      refine lv_aload_n hx hb dX10_read_66 rfl (lv_at hl 0 rfl) ?_
      refine lv_iload_n hx hb dX10_read_67 rfl (lv_at hl 2 rfl) ?_
      refine lv_aload_n hx hb dX10_read_68 rfl (lv_at hl 0 rfl) ?_
      obtain ⟨b119, eb119, hf⟩ := fo_el hf
      refine x_getR C hw fa_X10_7 (Or.inr ⟨_, rfl⟩) ta0 eb119 dX10_read_69 (fun tb119 => ?_)
      have tb119 : ∃ n, (mT m0) b119 = some (.inr (0, n)) := tb119
      refine lv_iconst hx hb dX10_read_72 ki_4 ?_
      obtain ⟨g120, hf⟩ := gd_el hf
      refine x_iald C hw tb119 g120 dX10_read_73 ?_
      refine lv_iconst hx hb dX10_read_74 ki_1 ?_
      refine lv_isub hx hb dX10_read_75 ?_
      refine lv_iconst hx hb dX10_read_76 ki_m1 ?_
      refine lv_aload_n hx hb dX10_read_77 rfl (lv_at hl 0 rfl) ?_
      obtain ⟨b121, eb121, hf⟩ := fo_el hf
      refine x_getR C hw fa_X10_7 (Or.inr ⟨_, rfl⟩) ta0 eb121 dX10_read_78 (fun tb121 => ?_)
      have tb121 : ∃ n, (mT m0) b121 = some (.inr (0, n)) := tb121
      refine lv_iconst hx hb dX10_read_81 ki_0 ?_
      obtain ⟨g122, hf⟩ := gd_el hf
      refine x_iald C hw tb121 g122 dX10_read_82 ?_
      refine lv_iload hx hb dX10_read_83 (lv_at hl 4 rfl) ?_
      refine lv_iadd hx hb dX10_read_85 ?_
      obtain ⟨m123, cm123, hf⟩ := b1_el (o := f_X10_goes a0 x2 ((mI mu b119 (Int32.toNatClampNeg 4)) - 1) (-1) ((mI mu b121 (Int32.toNatClampNeg 0)) + x4) mu) hf
      refine x_callVv (As := [.int x2, .int ((mI mu b119 (Int32.toNatClampNeg 4)) - 1), .int (-1), .int ((mI mu b121 (Int32.toNatClampNeg 0)) + x4)]) (rest := []) C hl.1 hw cb_X10_103 cv_X10_goes (k_X10_goes hw.2.2.2.2 ta0 cm123) ta0 rfl rfl (by decide) ⟨Nat.le_refl _, Nat.le_refl _⟩ rfl (Nat.le_of_ble_eq_true rfl) dX10_read_86 (fun H locs hw tm123 => ?_)
      refine lv_iload_n hx hb dX10_read_89 rfl (lv_at hl 3 rfl) ?_
      refine lv_if_ne (tgt := 122) hx hb dX10_read_90 (by decide) (fun c => ?_) (fun c => ?_)
      · have hf := ifn hf c
        refine lv_iload_n hx hb dX10_read_122 rfl (lv_at hl 3 rfl) ?_
        refine lv_istore_n (lv' := [(3, .int x3), (0, .ref a0), (1, .int x1), (2, .int x2), (4, .int x4)]) hx hb dX10_read_123 rfl hl (by decide) rfl (fun ls hl => ?_)
        obtain ⟨x124, ex124⟩ : ∃ z : Int32, z = x4 + 1 := ⟨_, rfl⟩
        have hf := nm_el hf ex124
        refine lv_iinc (v := x124) (lv' := [(4, .int x124), (3, .int x3), (0, .ref a0), (1, .int x1), (2, .int x2)]) hx hb dX10_read_124 hl (k := 4) rfl (by rw [ex124, ki_1]) (by decide) rfl (fun ls hl => ?_)
        refine lv_goto (tgt := 55) hx hb dX10_read_127 (by decide) ?_
        exact ih _ _ _ _ _ _ (lv_sub hl [2, 3, 4, 1, 0] rfl) hw hf
      · have hf := ifp hf c
        refine lv_aload_n hx hb dX10_read_93 rfl (lv_at hl 0 rfl) ?_
        obtain ⟨b125, eb125, hf⟩ := fo_el hf
        refine x_getR C hw fa_X10_55 (Or.inr ⟨_, rfl⟩) ta0 eb125 dX10_read_94 (fun tb125 => ?_)
        have tb125 : ∃ n, (mT m0) b125 = some (.inr (2, n)) := tb125
        refine lv_bipush hx hb dX10_read_97 kb_40 ?_
        refine lv_iload_n hx hb dX10_read_99 rfl (lv_at hl 1 rfl) ?_
        refine lv_imul hx hb dX10_read_100 ?_
        refine lv_iload hx hb dX10_read_101 (lv_at hl 4 rfl) ?_
        refine lv_iadd hx hb dX10_read_103 ?_
        obtain ⟨g126, hf⟩ := gd_el hf
        refine x_lald C hw tb125 g126 dX10_read_104 ?_
        refine lv_aload_n hx hb dX10_read_105 rfl (lv_at hl 0 rfl) ?_
        refine lv_iload_n hx hb dX10_read_106 rfl (lv_at hl 2 rfl) ?_
        obtain ⟨r128, m127, cm127, hf⟩ := b2_el (o := f_X10_readOf a0 x2 m123) hf
        refine x_callVi (As := [.int x2]) (rest := [.long (mL m123 b125 (Int32.toNatClampNeg ((40 * x1) + x4)))]) C hl.1 hw cb_X10_115 cv_X10_readOf (k_X10_readOf hw.2.2.2.2 ta0 cm127) ta0 rfl rfl (by decide) ⟨Nat.le_refl _, Nat.le_refl _⟩ rfl (Nat.le_of_ble_eq_true rfl) dX10_read_107 (fun H locs hw tr128 => ?_)
        refine lv_i2l (v := (Int32.toInt64 r128)) hx hb dX10_read_110 rfl ?_
        refine W.lcmp hx hb dX10_read_111 ?_
        refine lv_if_eq (tgt := 122) hx hb dX10_read_112 (by decide) (fun c => ?_) (fun c => ?_)
        · have hf := ifp hf c
          refine lv_iload_n hx hb dX10_read_122 rfl (lv_at hl 3 rfl) ?_
          refine lv_istore_n (lv' := [(3, .int x3), (0, .ref a0), (1, .int x1), (2, .int x2), (4, .int x4)]) hx hb dX10_read_123 rfl hl (by decide) rfl (fun ls hl => ?_)
          obtain ⟨x129, ex129⟩ : ∃ z : Int32, z = x4 + 1 := ⟨_, rfl⟩
          have hf := nm_el hf ex129
          refine lv_iinc (v := x129) (lv' := [(4, .int x129), (3, .int x3), (0, .ref a0), (1, .int x1), (2, .int x2)]) hx hb dX10_read_124 hl (k := 4) rfl (by rw [ex129, ki_1]) (by decide) rfl (fun ls hl => ?_)
          refine lv_goto (tgt := 55) hx hb dX10_read_127 (by decide) ?_
          exact ih _ _ _ _ _ _ (lv_sub hl [2, 3, 4, 1, 0] rfl) hw hf
        · have hf := ifn hf c
          refine lv_iload hx hb dX10_read_115 (lv_at hl 4 rfl) ?_
          refine lv_iconst hx hb dX10_read_117 ki_1 ?_
          refine lv_iadd hx hb dX10_read_118 ?_
          refine lv_goto (tgt := 123) hx hb dX10_read_119 (by decide) ?_
          refine lv_topi (fun x130 ex130 => ?_)
          have hf := nm_el hf ex130
          refine lv_istore_n (lv' := [(3, .int x130), (0, .ref a0), (1, .int x1), (2, .int x2), (4, .int x4)]) hx hb dX10_read_123 rfl hl (by decide) rfl (fun ls hl => ?_)
          obtain ⟨x131, ex131⟩ : ∃ z : Int32, z = x4 + 1 := ⟨_, rfl⟩
          have hf := nm_el hf ex131
          refine lv_iinc (v := x131) (lv' := [(4, .int x131), (3, .int x130), (0, .ref a0), (1, .int x1), (2, .int x2)]) hx hb dX10_read_124 hl (k := 4) rfl (by rw [ex131, ki_1]) (by decide) rfl (fun ls hl => ?_)
          refine lv_goto (tgt := 55) hx hb dX10_read_127 (by decide) ?_
          exact ih _ _ _ _ _ _ (lv_sub hl [2, 3, 4, 1, 0] rfl) hw hf
set_option maxHeartbeats 4000000 in
set_option maxRecDepth 100000 in
theorem k_X10_read {l : Launch} {D : va_G} {E : Nat → ClassId} {tU : Nat} {τ : Nat → Option XTy} {a0 : Nat} {x1 : Int32} {x2 : Int32} {m0 mE : XMem} {rE : Int32} (hm : mT m0 = τ) (ta0 : τ a0 = some (.inl 10)) (hf : f_X10_read a0 x1 x2 m0 = some (rE, mE)) : Ct l yX10_read cX10_read 5 ((Option.some FieldType.int)) 7 0 0 D E tU [.ref a0, .int x1, .int x2] m0 (some (.int rE)) mE (mT mE = mT m0 ∧ True) := by
  subst hm
  refine Ct.of (by decide) (Nat.le_of_ble_eq_true rfl) (fun p e s m below meth c ls C hr hk hnm hl hw => ?_)
  have hx := C.1
  have hb := C.2.1
  have hl : lv_has ls 5 [(0, .ref a0), (1, .int x1), (2, .int x2)] := hl
  unfold f_X10_read at hf
  refine lv_iload_n hx hb dX10_read_0 rfl (lv_at hl 1 rfl) ?_
  obtain ⟨r102, m101, cm101, hf⟩ := b2_el (o := f_X10_isSheet x1 m0) hf
  refine x_callSi (As := [.int x1]) (rest := []) C hl.1 hw cb_X10_238 cs_X10_isSheet (k_X10_isSheet hw.2.2.2.2  cm101) rfl (by decide) ⟨Nat.le_refl _, Nat.le_refl _⟩ rfl (Nat.le_of_ble_eq_true rfl) dX10_read_1 (fun H locs hw tr102 => ?_)
  refine lv_if_ne (tgt := 14) hx hb dX10_read_4 (by decide) (fun c => ?_) (fun c => ?_)
  · have hf := ifn hf c
    refine lv_aload_n hx hb dX10_read_14 rfl (lv_at hl 0 rfl) ?_
    obtain ⟨b103, eb103, hf⟩ := fo_el hf
    refine x_getR C hw fa_X10_49 (Or.inr ⟨_, rfl⟩) ta0 eb103 dX10_read_15 (fun tb103 => ?_)
    have tb103 : ∃ n, (mT m0) b103 = some (.inr (0, n)) := tb103
    refine lv_iload_n hx hb dX10_read_18 rfl (lv_at hl 1 rfl) ?_
    obtain ⟨g104, hf⟩ := gd_el hf
    refine x_iald C hw tb103 g104 dX10_read_19 ?_
    refine lv_if_ne (tgt := 30) hx hb dX10_read_20 (by decide) (fun c => ?_) (fun c => ?_)
    · have hf := ifn hf c
      refine lv_aload_n hx hb dX10_read_30 rfl (lv_at hl 0 rfl) ?_
      refine lv_iload_n hx hb dX10_read_31 rfl (lv_at hl 2 rfl) ?_
      obtain ⟨r106, m105, cm105, hf⟩ := b2_el (o := f_X10_isCell a0 x2 m101) hf
      refine x_callVi (As := [.int x2]) (rest := []) C hl.1 hw cb_X10_76 cv_X10_isCell (k_X10_isCell hw.2.2.2.2 ta0 cm105) ta0 rfl rfl (by decide) ⟨Nat.le_refl _, Nat.le_refl _⟩ rfl (Nat.le_of_ble_eq_true rfl) dX10_read_32 (fun H locs hw tr106 => ?_)
      refine lv_if_ne (tgt := 45) hx hb dX10_read_35 (by decide) (fun c => ?_) (fun c => ?_)
      · have hf := ifn hf c
        refine lv_aload_n hx hb dX10_read_45 rfl (lv_at hl 0 rfl) ?_
        refine lv_iload_n hx hb dX10_read_46 rfl (lv_at hl 2 rfl) ?_
        obtain ⟨m107, cm107, hf⟩ := b1_el (o := f_X10_saves a0 x2 m105) hf
        refine x_callVv (As := [.int x2]) (rest := []) C hl.1 hw cb_X10_216 cv_X10_saves (k_X10_saves hw.2.2.2.2 ta0 cm107) ta0 rfl rfl (by decide) ⟨Nat.le_refl _, Nat.le_refl _⟩ rfl (Nat.le_of_ble_eq_true rfl) dX10_read_47 (fun H locs hw tm107 => ?_)
        refine lv_iconst hx hb dX10_read_50 ki_0 ?_
        refine lv_istore_n (lv' := [(3, .int 0), (0, .ref a0), (1, .int x1), (2, .int x2)]) hx hb dX10_read_51 rfl hl (by decide) rfl (fun ls hl => ?_)
        refine lv_iconst hx hb dX10_read_52 ki_0 ?_
        refine lv_istore (lv' := [(4, .int 0), (3, .int 0), (0, .ref a0), (1, .int x1), (2, .int x2)]) hx hb dX10_read_53 hl (by decide) rfl (fun ls hl => ?_)
        refine w_X10_read_h55 C hr hk hnm ta0 ?_ 2000 _ _ _ _ _ _ (lv_sub hl [2, 3, 4, 1, 0] rfl) hw hf
        intro x109 m108 H locs ls hl hw hf
        refine lv_aload_n hx hb dX10_read_130 rfl (lv_at hl 0 rfl) ?_
        refine lv_iload_n hx hb dX10_read_131 rfl (lv_at hl 1 rfl) ?_
        obtain ⟨m110, cm110, hf⟩ := b1_el (o := f_X10_brings a0 x2 m108) hf
        refine x_callVv (As := [.int x2]) (rest := []) C hl.1 hw cb_X10_225 cv_X10_brings (k_X10_brings hw.2.2.2.2 ta0 cm110) ta0 rfl rfl (by decide) ⟨Nat.le_refl _, Nat.le_refl _⟩ rfl (Nat.le_of_ble_eq_true rfl) dX10_read_132 (fun H locs hw tm110 => ?_)
        refine lv_iload_n hx hb dX10_read_135 rfl (lv_at hl 2 rfl) ?_
        exact x_retI C hr hk hw  hf (by decide) (by decide) dX10_read_136
      · have hf := ifp hf c
        refine lv_aload_n hx hb dX10_read_38 rfl (lv_at hl 0 rfl) ?_
        refine lv_ldc hx hb C.2.2.2.1 (C.2.2.2.2.1 _ ki_X10_61) dX10_read_39 ?_
        obtain ⟨r112, m111, cm111, hf⟩ := b2_el (o := f_X10_finds a0 (-1000000001) m105) hf
        refine x_callVi (As := [.int (-1000000001)]) (rest := []) C hl.1 hw cb_X10_67 cv_X10_finds (k_X10_finds hw.2.2.2.2 ta0 cm111) ta0 rfl rfl (by decide) ⟨Nat.le_refl _, Nat.le_refl _⟩ rfl (Nat.le_of_ble_eq_true rfl) dX10_read_41 (fun H locs hw tr112 => ?_)
        exact x_retI C hr hk hw  hf (by decide) (by decide) dX10_read_44
    · have hf := ifp hf c
      refine lv_aload_n hx hb dX10_read_23 rfl (lv_at hl 0 rfl) ?_
      refine lv_ldc hx hb C.2.2.2.1 (C.2.2.2.2.1 _ ki_X10_241) dX10_read_24 ?_
      obtain ⟨r114, m113, cm113, hf⟩ := b2_el (o := f_X10_finds a0 (-1000000006) m101) hf
      refine x_callVi (As := [.int (-1000000006)]) (rest := []) C hl.1 hw cb_X10_67 cv_X10_finds (k_X10_finds hw.2.2.2.2 ta0 cm113) ta0 rfl rfl (by decide) ⟨Nat.le_refl _, Nat.le_refl _⟩ rfl (Nat.le_of_ble_eq_true rfl) dX10_read_26 (fun H locs hw tr114 => ?_)
      exact x_retI C hr hk hw  hf (by decide) (by decide) dX10_read_29
  · have hf := ifp hf c
    refine lv_aload_n hx hb dX10_read_7 rfl (lv_at hl 0 rfl) ?_
    refine lv_ldc hx hb C.2.2.2.1 (C.2.2.2.2.1 _ ki_X10_61) dX10_read_8 ?_
    obtain ⟨r116, m115, cm115, hf⟩ := b2_el (o := f_X10_finds a0 (-1000000001) m101) hf
    refine x_callVi (As := [.int (-1000000001)]) (rest := []) C hl.1 hw cb_X10_67 cv_X10_finds (k_X10_finds hw.2.2.2.2 ta0 cm115) ta0 rfl rfl (by decide) ⟨Nat.le_refl _, Nat.le_refl _⟩ rfl (Nat.le_of_ble_eq_true rfl) dX10_read_10 (fun H locs hw tr116 => ?_)
    exact x_retI C hr hk hw  hf (by decide) (by decide) dX10_read_13
set_option maxHeartbeats 4000000 in
set_option maxRecDepth 100000 in
theorem w_X10_saying_h20 {p : Program} {l : Launch} {e : Env} {s : State} {m : MethodId} {args : Array Value} {below : List Frame} {meth : Method} {c : Code} {D : va_G} {E : Nat → ClassId} {tU : Nat} {m0 mE : XMem} {rE : Int32} (C : Cx p s m args c cX10_saying 4 RX10 D E (Am m0) tU) (hr : meth.sig.returnType = ((Option.some FieldType.int))) (hk : meth.locks = false) (hnm : meth.name = yX10_saying.name) {a0 : Nat} {x1 : Int32} (ta0 : mT m0 a0 = some (.inl 10)) {k57 : Int32 →  XMem → Option (Int32 × XMem)} (hk57 : ∀ (y2 : Int32) (mu : XMem) (H : Heap) (locs : List Loc) (ls : Array Slot), lv_has ls 4 [(2, .int y2)] → Wd D E (Am m0) s (mT m0) mu H locs →   k57 y2 mu = some (rE, mE) → W p l e (rmN 2 0 0) s m args below meth c H locs 0 0 (MQ below (XQ D E (Am m0) (some (.int rE)) mE (mT mE = mT m0 ∧ True)) args s 0 0 (Am m0)) (F0 m 57 ls [])) : ∀ (n : Nat) (x2 : Int32) (x3 : Int32) (mu : XMem) (H : Heap) (locs : List Loc) (ls : Array Slot), lv_has ls 4 [(0, .ref a0), (1, .int x1), (2, .int x2), (3, .int x3)] → Wd D E (Am m0) s (mT m0) mu H locs → f_X10_saying_h20 a0 x1 k57 n x2 x3 mu = some (rE, mE) → W p l e (rmN 2 0 0) s m args below meth c H locs 0 0 (MQ below (XQ D E (Am m0) (some (.int rE)) mE (mT mE = mT m0 ∧ True)) args s 0 0 (Am m0)) (F0 m 20 ls []) := by
  have hx := C.1
  have hb := C.2.1
  intro n
  induction n with
  | zero =>
    intros
    rename_i hf
    cases hf
  | succ n ih =>
    intro x2 x3 mu H locs ls hl hw hf
    rw [f_X10_saying_h20] at hf
    refine lv_iload_n hx hb dX10_saying_20 rfl (lv_at hl 3 rfl) ?_
    refine lv_aload_n hx hb dX10_saying_21 rfl (lv_at hl 0 rfl) ?_
    obtain ⟨b107, eb107, hf⟩ := fo_el hf
    refine x_getR C hw fa_X10_7 (Or.inr ⟨_, rfl⟩) ta0 eb107 dX10_saying_22 (fun tb107 => ?_)
    have tb107 : ∃ n, (mT m0) b107 = some (.inr (0, n)) := tb107
    refine lv_iconst hx hb dX10_saying_25 ki_3 ?_
    obtain ⟨g108, hf⟩ := gd_el hf
    refine x_iald C hw tb107 g108 dX10_saying_26 ?_
    refine lv_icmp_ge (tgt := 57) hx hb dX10_saying_27 (by decide) (fun c => ?_) (fun c => ?_)
    · have hf := ifp hf c
      exact hk57 _ _ _ _ _ (lv_sub hl [2] rfl) hw hf
    · have hf := ifn hf c
      refine lv_iload_n hx hb dX10_saying_30 rfl (lv_at hl 2 rfl) ?_
      refine lv_aload_n hx hb dX10_saying_31 rfl (lv_at hl 0 rfl) ?_
      refine lv_iload_n hx hb dX10_saying_32 rfl (lv_at hl 3 rfl) ?_
      refine lv_bipush hx hb dX10_saying_33 kb_6 ?_
      obtain ⟨r110, m109, cm109, hf⟩ := b2_el (o := f_X10_ofHouse a0 x3 6 mu) hf
      refine x_callVi (As := [.int x3, .int 6]) (rest := [.int x2]) C hl.1 hw cb_X10_197 cv_X10_ofHouse (k_X10_ofHouse hw.2.2.2.2 ta0 cm109) ta0 rfl rfl (by decide) ⟨Nat.le_refl _, Nat.le_refl _⟩ rfl (Nat.le_of_ble_eq_true rfl) dX10_saying_35 (fun H locs hw tr110 => ?_)
      refine lv_iload_n hx hb dX10_saying_38 rfl (lv_at hl 1 rfl) ?_
      refine lv_icmp_ne (tgt := 48) hx hb dX10_saying_39 (by decide) (fun c => ?_) (fun c => ?_)
      · have hf := ifn hf c
        refine lv_iconst hx hb dX10_saying_48 ki_0 ?_
        refine lv_ior hx hb dX10_saying_49 ?_
        refine lv_topi (fun x111 ex111 => ?_)
        have hf := nm_el hf ex111
        refine lv_istore_n (lv' := [(2, .int x111), (0, .ref a0), (1, .int x1), (3, .int x3)]) hx hb dX10_saying_50 rfl hl (by decide) rfl (fun ls hl => ?_)
        obtain ⟨x112, ex112⟩ : ∃ z : Int32, z = x3 + 1 := ⟨_, rfl⟩
        have hf := nm_el hf ex112
        refine lv_iinc (v := x112) (lv' := [(3, .int x112), (2, .int x111), (0, .ref a0), (1, .int x1)]) hx hb dX10_saying_51 hl (k := 3) rfl (by rw [ex112, ki_1]) (by decide) rfl (fun ls hl => ?_)
        refine lv_goto (tgt := 20) hx hb dX10_saying_54 (by decide) ?_
        exact ih _ _ _ _ _ _ (lv_sub hl [2, 3, 1, 0] rfl) hw hf
      · have hf := ifp hf c
        refine lv_iconst hx hb dX10_saying_42 ki_1 ?_
        refine lv_iload_n hx hb dX10_saying_43 rfl (lv_at hl 3 rfl) ?_
        refine lv_ishl hx hb dX10_saying_44 ?_
        refine lv_goto (tgt := 49) hx hb dX10_saying_45 (by decide) ?_
        refine lv_ior hx hb dX10_saying_49 ?_
        refine lv_topi (fun x113 ex113 => ?_)
        have hf := nm_el hf ex113
        refine lv_istore_n (lv' := [(2, .int x113), (0, .ref a0), (1, .int x1), (3, .int x3)]) hx hb dX10_saying_50 rfl hl (by decide) rfl (fun ls hl => ?_)
        obtain ⟨x114, ex114⟩ : ∃ z : Int32, z = x3 + 1 := ⟨_, rfl⟩
        have hf := nm_el hf ex114
        refine lv_iinc (v := x114) (lv' := [(3, .int x114), (2, .int x113), (0, .ref a0), (1, .int x1)]) hx hb dX10_saying_51 hl (k := 3) rfl (by rw [ex114, ki_1]) (by decide) rfl (fun ls hl => ?_)
        refine lv_goto (tgt := 20) hx hb dX10_saying_54 (by decide) ?_
        exact ih _ _ _ _ _ _ (lv_sub hl [2, 3, 1, 0] rfl) hw hf
set_option maxHeartbeats 4000000 in
set_option maxRecDepth 100000 in
theorem k_X10_saying {l : Launch} {D : va_G} {E : Nat → ClassId} {tU : Nat} {τ : Nat → Option XTy} {a0 : Nat} {x1 : Int32} {m0 mE : XMem} {rE : Int32} (hm : mT m0 = τ) (ta0 : τ a0 = some (.inl 10)) (hf : f_X10_saying a0 x1 m0 = some (rE, mE)) : Ct l yX10_saying cX10_saying 4 ((Option.some FieldType.int)) 2 0 0 D E tU [.ref a0, .int x1] m0 (some (.int rE)) mE (mT mE = mT m0 ∧ True) := by
  subst hm
  refine Ct.of (by decide) (Nat.le_of_ble_eq_true rfl) (fun p e s m below meth c ls C hr hk hnm hl hw => ?_)
  have hx := C.1
  have hb := C.2.1
  have hl : lv_has ls 4 [(0, .ref a0), (1, .int x1)] := hl
  unfold f_X10_saying at hf
  refine lv_iload_n hx hb dX10_saying_0 rfl (lv_at hl 1 rfl) ?_
  refine lv_iconst hx hb dX10_saying_1 ki_0 ?_
  refine lv_iconst hx hb dX10_saying_2 ki_2 ?_
  obtain ⟨r102, m101, cm101, hf⟩ := b2_el (o := f_X10_within x1 0 2 m0) hf
  refine x_callSi (As := [.int x1, .int 0, .int 2]) (rest := []) C hl.1 hw cb_X10_62 cs_X10_within (k_X10_within hw.2.2.2.2  cm101) rfl (by decide) ⟨Nat.le_refl _, Nat.le_refl _⟩ rfl (Nat.le_of_ble_eq_true rfl) dX10_saying_3 (fun H locs hw tr102 => ?_)
  refine lv_if_ne (tgt := 16) hx hb dX10_saying_6 (by decide) (fun c => ?_) (fun c => ?_)
  · have hf := ifn hf c
    refine lv_iconst hx hb dX10_saying_16 ki_0 ?_
    refine lv_istore_n (lv' := [(2, .int 0), (0, .ref a0), (1, .int x1)]) hx hb dX10_saying_17 rfl hl (by decide) rfl (fun ls hl => ?_)
    refine lv_iconst hx hb dX10_saying_18 ki_0 ?_
    refine lv_istore_n (lv' := [(3, .int 0), (2, .int 0), (0, .ref a0), (1, .int x1)]) hx hb dX10_saying_19 rfl hl (by decide) rfl (fun ls hl => ?_)
    refine w_X10_saying_h20 C hr hk hnm ta0 ?_ 2000 _ _ _ _ _ _ (lv_sub hl [2, 3, 1, 0] rfl) hw hf
    intro x104 m103 H locs ls hl hw hf
    refine lv_iload_n hx hb dX10_saying_57 rfl (lv_at hl 0 rfl) ?_
    exact x_retI C hr hk hw  hf (by decide) (by decide) dX10_saying_58
  · have hf := ifp hf c
    refine lv_aload_n hx hb dX10_saying_9 rfl (lv_at hl 0 rfl) ?_
    refine lv_ldc hx hb C.2.2.2.1 (C.2.2.2.2.1 _ ki_X10_61) dX10_saying_10 ?_
    obtain ⟨r106, m105, cm105, hf⟩ := b2_el (o := f_X10_finds a0 (-1000000001) m101) hf
    refine x_callVi (As := [.int (-1000000001)]) (rest := []) C hl.1 hw cb_X10_67 cv_X10_finds (k_X10_finds hw.2.2.2.2 ta0 cm105) ta0 rfl rfl (by decide) ⟨Nat.le_refl _, Nat.le_refl _⟩ rfl (Nat.le_of_ble_eq_true rfl) dX10_saying_12 (fun H locs hw tr106 => ?_)
    exact x_retI C hr hk hw  hf (by decide) (by decide) dX10_saying_15
set_option maxHeartbeats 4000000 in
set_option maxRecDepth 100000 in
theorem k_X10_says {l : Launch} {D : va_G} {E : Nat → ClassId} {tU : Nat} {τ : Nat → Option XTy} {a0 : Nat} {x1 : Int32} {x2 : Int32} {m0 mE : XMem} {rE : Int32} (hm : mT m0 = τ) (ta0 : τ a0 = some (.inl 10)) (hf : f_X10_says a0 x1 x2 m0 = some (rE, mE)) : Ct l yX10_says cX10_says 3 ((Option.some FieldType.int)) 6 0 0 D E tU [.ref a0, .int x1, .int x2] m0 (some (.int rE)) mE (mT mE = mT m0 ∧ True) := by
  subst hm
  refine Ct.of (by decide) (Nat.le_of_ble_eq_true rfl) (fun p e s m below meth c ls C hr hk hnm hl hw => ?_)
  have hx := C.1
  have hb := C.2.1
  have hl : lv_has ls 3 [(0, .ref a0), (1, .int x1), (2, .int x2)] := hl
  unfold f_X10_says at hf
  refine lv_iload_n hx hb dX10_says_0 rfl (lv_at hl 1 rfl) ?_
  refine lv_iconst hx hb dX10_says_1 ki_0 ?_
  refine lv_iconst hx hb dX10_says_2 ki_1 ?_
  obtain ⟨r102, m101, cm101, hf⟩ := b2_el (o := f_X10_within x1 0 1 m0) hf
  refine x_callSi (As := [.int x1, .int 0, .int 1]) (rest := []) C hl.1 hw cb_X10_62 cs_X10_within (k_X10_within hw.2.2.2.2  cm101) rfl (by decide) ⟨Nat.le_refl _, Nat.le_refl _⟩ rfl (Nat.le_of_ble_eq_true rfl) dX10_says_3 (fun H locs hw tr102 => ?_)
  refine lv_if_eq (tgt := 35) hx hb dX10_says_6 (by decide) (fun c => ?_) (fun c => ?_)
  · have hf := ifp hf c
    refine lv_aload_n hx hb dX10_says_35 rfl (lv_at hl 0 rfl) ?_
    refine lv_ldc hx hb C.2.2.2.1 (C.2.2.2.2.1 _ ki_X10_61) dX10_says_36 ?_
    obtain ⟨r104, m103, cm103, hf⟩ := b2_el (o := f_X10_finds a0 (-1000000001) m101) hf
    refine x_callVi (As := [.int (-1000000001)]) (rest := []) C hl.1 hw cb_X10_67 cv_X10_finds (k_X10_finds hw.2.2.2.2 ta0 cm103) ta0 rfl rfl (by decide) ⟨Nat.le_refl _, Nat.le_refl _⟩ rfl (Nat.le_of_ble_eq_true rfl) dX10_says_38 (fun H locs hw tr104 => ?_)
    exact x_retI C hr hk hw  hf (by decide) (by decide) dX10_says_41
  · have hf := ifn hf c
    refine lv_aload_n hx hb dX10_says_9 rfl (lv_at hl 0 rfl) ?_
    refine lv_iload_n hx hb dX10_says_10 rfl (lv_at hl 2 rfl) ?_
    obtain ⟨r106, m105, cm105, hf⟩ := b2_el (o := f_X10_isCell a0 x2 m101) hf
    refine x_callVi (As := [.int x2]) (rest := []) C hl.1 hw cb_X10_76 cv_X10_isCell (k_X10_isCell hw.2.2.2.2 ta0 cm105) ta0 rfl rfl (by decide) ⟨Nat.le_refl _, Nat.le_refl _⟩ rfl (Nat.le_of_ble_eq_true rfl) dX10_says_11 (fun H locs hw tr106 => ?_)
    refine lv_if_eq (tgt := 35) hx hb dX10_says_14 (by decide) (fun c => ?_) (fun c => ?_)
    · have hf := ifp hf c
      refine lv_aload_n hx hb dX10_says_35 rfl (lv_at hl 0 rfl) ?_
      refine lv_ldc hx hb C.2.2.2.1 (C.2.2.2.2.1 _ ki_X10_61) dX10_says_36 ?_
      obtain ⟨r108, m107, cm107, hf⟩ := b2_el (o := f_X10_finds a0 (-1000000001) m105) hf
      refine x_callVi (As := [.int (-1000000001)]) (rest := []) C hl.1 hw cb_X10_67 cv_X10_finds (k_X10_finds hw.2.2.2.2 ta0 cm107) ta0 rfl rfl (by decide) ⟨Nat.le_refl _, Nat.le_refl _⟩ rfl (Nat.le_of_ble_eq_true rfl) dX10_says_38 (fun H locs hw tr108 => ?_)
      exact x_retI C hr hk hw  hf (by decide) (by decide) dX10_says_41
    · have hf := ifn hf c
      refine lv_aload_n hx hb dX10_says_17 rfl (lv_at hl 0 rfl) ?_
      refine lv_bipush hx hb dX10_says_18 kb_6 ?_
      refine lv_iload_n hx hb dX10_says_20 rfl (lv_at hl 1 rfl) ?_
      refine lv_iadd hx hb dX10_says_21 ?_
      refine lv_iload_n hx hb dX10_says_22 rfl (lv_at hl 2 rfl) ?_
      refine lv_aload_n hx hb dX10_says_23 rfl (lv_at hl 0 rfl) ?_
      obtain ⟨b109, eb109, hf⟩ := fo_el hf
      refine x_getR C hw fa_X10_7 (Or.inr ⟨_, rfl⟩) ta0 eb109 dX10_says_24 (fun tb109 => ?_)
      have tb109 : ∃ n, (mT m0) b109 = some (.inr (0, n)) := tb109
      refine lv_iconst hx hb dX10_says_27 ki_0 ?_
      obtain ⟨g110, hf⟩ := gd_el hf
      refine x_iald C hw tb109 g110 dX10_says_28 ?_
      obtain ⟨r112, m111, cm111, hf⟩ := b2_el (o := f_X10_worked a0 (6 + x1) x2 (mI m105 b109 (Int32.toNatClampNeg 0)) m105) hf
      refine x_callVi (As := [.int (6 + x1), .int x2, .int (mI m105 b109 (Int32.toNatClampNeg 0))]) (rest := []) C hl.1 hw cb_X10_87 cv_X10_worked (k_X10_worked hw.2.2.2.2 ta0 cm111) ta0 rfl rfl (by decide) ⟨Nat.le_refl _, Nat.le_refl _⟩ rfl (Nat.le_of_ble_eq_true rfl) dX10_says_29 (fun H locs hw tr112 => ?_)
      refine lv_goto (tgt := 41) hx hb dX10_says_32 (by decide) ?_
      exact x_retI C hr hk hw  hf (by decide) (by decide) dX10_says_41
set_option maxHeartbeats 4000000 in
set_option maxRecDepth 100000 in
theorem w_X10_shared_h114 {p : Program} {l : Launch} {e : Env} {s : State} {m : MethodId} {args : Array Value} {below : List Frame} {meth : Method} {c : Code} {D : va_G} {E : Nat → ClassId} {tU : Nat} {m0 mE : XMem} {rE : Int32} (C : Cx p s m args c cX10_shared 13 RX10 D E (Am m0) tU) (hr : meth.sig.returnType = ((Option.some FieldType.int))) (hk : meth.locks = false) (hnm : meth.name = yX10_shared.name) {a0 : Nat} {x1 : Int32} {x2 : Int32} {l3 : Int64} {l7 : Int64} (ta0 : mT m0 a0 = some (.inl 10)) {k196 : Int64 → Int32 →  XMem → Option (Int32 × XMem)} (hk196 : ∀ (y5 : Int64) (y9 : Int32) (mu : XMem) (H : Heap) (locs : List Loc) (ls : Array Slot), lv_has ls 13 [(0, .ref a0), (1, .int x1), (2, .int x2), (3, .long l3), (5, .long y5), (9, .int y9)] → Wd D E (Am m0) s (mT m0) mu H locs →   k196 y5 y9 mu = some (rE, mE) → W p l e (rmN 4 0 0) s m args below meth c H locs 0 0 (MQ below (XQ D E (Am m0) (some (.int rE)) mE (mT mE = mT m0 ∧ True)) args s 0 0 (Am m0)) (F0 m 196 ls [])) : ∀ (n : Nat) (l5 : Int64) (x9 : Int32) (x10 : Int32) (mu : XMem) (H : Heap) (locs : List Loc) (ls : Array Slot), lv_has ls 13 [(0, .ref a0), (1, .int x1), (2, .int x2), (3, .long l3), (5, .long l5), (7, .long l7), (9, .int x9), (10, .int x10)] → Wd D E (Am m0) s (mT m0) mu H locs → f_X10_shared_h114 a0 x1 x2 l3 l7 k196 n l5 x9 x10 mu = some (rE, mE) → W p l e (rmN 4 0 0) s m args below meth c H locs 0 0 (MQ below (XQ D E (Am m0) (some (.int rE)) mE (mT mE = mT m0 ∧ True)) args s 0 0 (Am m0)) (F0 m 114 ls []) := by
  have hx := C.1
  have hb := C.2.1
  intro n
  induction n with
  | zero =>
    intros
    rename_i hf
    cases hf
  | succ n ih =>
    intro l5 x9 x10 mu H locs ls hl hw hf
    rw [f_X10_shared_h114] at hf
    refine lv_iload hx hb dX10_shared_114 (lv_at hl 7 rfl) ?_
    refine lv_aload_n hx hb dX10_shared_116 rfl (lv_at hl 0 rfl) ?_
    obtain ⟨b136, eb136, hf⟩ := fo_el hf
    refine x_getR C hw fa_X10_7 (Or.inr ⟨_, rfl⟩) ta0 eb136 dX10_shared_117 (fun tb136 => ?_)
    have tb136 : ∃ n, (mT m0) b136 = some (.inr (0, n)) := tb136
    refine lv_iconst hx hb dX10_shared_120 ki_3 ?_
    obtain ⟨g137, hf⟩ := gd_el hf
    refine x_iald C hw tb136 g137 dX10_shared_121 ?_
    refine lv_icmp_ge (tgt := 196) hx hb dX10_shared_122 (by decide) (fun c => ?_) (fun c => ?_)
    · have hf := ifp hf c
      exact hk196 _ _ _ _ _ _ (lv_sub hl [0, 1, 2, 3, 4, 6] rfl) hw hf
    · have hf := ifn hf c
      refine lv_aload_n hx hb dX10_shared_125 rfl (lv_at hl 0 rfl) ?_
      refine lv_iload hx hb dX10_shared_126 (lv_at hl 7 rfl) ?_
      obtain ⟨r139, m138, cm138, hf⟩ := b2_el (o := f_X10_gets a0 x10 mu) hf
      refine x_callVi (As := [.int x10]) (rest := []) C hl.1 hw cb_X10_213 cv_X10_gets (k_X10_gets hw.2.2.2.2 ta0 cm138) ta0 rfl rfl (by decide) ⟨Nat.le_refl _, Nat.le_refl _⟩ rfl (Nat.le_of_ble_eq_true rfl) dX10_shared_128 (fun H locs hw tr139 => ?_)
      refine lv_if_eq (tgt := 190) hx hb dX10_shared_131 (by decide) (fun c => ?_) (fun c => ?_)
      · have hf := ifp hf c
        obtain ⟨x140, ex140⟩ : ∃ z : Int32, z = x10 + 1 := ⟨_, rfl⟩
        have hf := nm_el hf ex140
        refine lv_iinc (v := x140) (lv' := [(10, .int x140), (0, .ref a0), (1, .int x1), (2, .int x2), (3, .long l3), (5, .long l5), (7, .long l7), (9, .int x9)]) hx hb dX10_shared_190 hl (k := 7) rfl (by rw [ex140, ki_1]) (by decide) rfl (fun ls hl => ?_)
        refine lv_goto (tgt := 114) hx hb dX10_shared_193 (by decide) ?_
        exact ih _ _ _ _ _ _ _ (lv_sub hl [1, 2, 3, 4, 5, 6, 7, 0] rfl) hw hf
      · have hf := ifn hf c
        refine lv_iload_n hx hb dX10_shared_134 rfl (lv_at hl 1 rfl) ?_
        refine lv_i2l (v := (Int32.toInt64 x1)) hx hb dX10_shared_135 rfl ?_
        refine lv_aload_n hx hb dX10_shared_136 rfl (lv_at hl 0 rfl) ?_
        refine lv_iload hx hb dX10_shared_137 (lv_at hl 7 rfl) ?_
        obtain ⟨l142, m141, cm141, hf⟩ := b2_el (o := f_X10_itsBalance a0 x10 m138) hf
        refine x_callVl (As := [.int x10]) (rest := [.long (Int32.toInt64 x1)]) C hl.1 hw cb_X10_200 cv_X10_itsBalance (k_X10_itsBalance hw.2.2.2.2 ta0 cm141) ta0 rfl rfl (by decide) ⟨Nat.le_refl _, Nat.le_refl _⟩ rfl (Nat.le_of_ble_eq_true rfl) dX10_shared_139 (fun H locs hw tl142 => ?_)
        refine lv_lmul hx hb dX10_shared_142 ?_
        refine lv_topl (fun l143 el143 => ?_)
        have hf := nm_el hf el143
        refine lv_lstore (lv' := [(11, .long l143), (0, .ref a0), (1, .int x1), (2, .int x2), (3, .long l3), (5, .long l5), (7, .long l7), (9, .int x9), (10, .int x10)]) hx hb dX10_shared_143 hl (by decide) rfl (fun ls hl => ?_)
        refine lv_lload hx hb dX10_shared_145 (lv_at hl 5 rfl) ?_
        refine lv_lload hx hb dX10_shared_147 (lv_at hl 0 rfl) ?_
        refine lv_lload_n hx hb dX10_shared_149 rfl (lv_at hl 4 rfl) ?_
        obtain ⟨g144, hf⟩ := gd_el hf
        refine lv_ldiv hx hb dX10_shared_150 (nzL_ne g144) ?_
        refine lv_lsub hx hb dX10_shared_151 ?_
        refine lv_topl (fun l145 el145 => ?_)
        have hf := nm_el hf el145
        refine lv_lstore (lv' := [(5, .long l145), (11, .long l143), (0, .ref a0), (1, .int x1), (2, .int x2), (3, .long l3), (7, .long l7), (9, .int x9), (10, .int x10)]) hx hb dX10_shared_152 hl (by decide) rfl (fun ls hl => ?_)
        refine lv_iload hx hb dX10_shared_154 (lv_at hl 7 rfl) ?_
        refine lv_lload hx hb dX10_shared_156 (lv_at hl 1 rfl) ?_
        refine lv_lload_n hx hb dX10_shared_158 rfl (lv_at hl 5 rfl) ?_
        obtain ⟨g146, hf⟩ := gd_el hf
        refine lv_lrem hx hb dX10_shared_159 (nzL_ne g146) ?_
        refine lv_lload hx hb dX10_shared_160 (lv_at hl 6 rfl) ?_
        refine W.lcmp hx hb dX10_shared_162 ?_
        refine lv_if_gt (tgt := 182) hx hb dX10_shared_163 (by decide) (fun c => ?_) (fun c => ?_)
        · have hf := ifp hf c
          refine lv_iconst hx hb dX10_shared_182 ki_1 ?_
          refine lv_goto (tgt := 187) hx hb dX10_shared_183 (by decide) ?_
          refine lv_iadd hx hb dX10_shared_187 ?_
          refine lv_topi (fun x147 ex147 => ?_)
          have hf := nm_el hf ex147
          refine lv_istore (lv' := [(9, .int x147), (5, .long l145), (11, .long l143), (0, .ref a0), (1, .int x1), (2, .int x2), (3, .long l3), (7, .long l7), (10, .int x10)]) hx hb dX10_shared_188 hl (by decide) rfl (fun ls hl => ?_)
          obtain ⟨x148, ex148⟩ : ∃ z : Int32, z = x10 + 1 := ⟨_, rfl⟩
          have hf := nm_el hf ex148
          refine lv_iinc (v := x148) (lv' := [(10, .int x148), (9, .int x147), (5, .long l145), (11, .long l143), (0, .ref a0), (1, .int x1), (2, .int x2), (3, .long l3), (7, .long l7)]) hx hb dX10_shared_190 hl (k := 8) rfl (by rw [ex148, ki_1]) (by decide) rfl (fun ls hl => ?_)
          refine lv_goto (tgt := 114) hx hb dX10_shared_193 (by decide) ?_
          exact ih _ _ _ _ _ _ _ (lv_sub hl [4, 5, 6, 7, 2, 8, 1, 0] rfl) hw hf
        · have hf := ifn hf c
          refine lv_lload hx hb dX10_shared_166 (lv_at hl 1 rfl) ?_
          refine lv_lload_n hx hb dX10_shared_168 rfl (lv_at hl 5 rfl) ?_
          obtain ⟨g149, hf⟩ := gd_el hf
          refine lv_lrem hx hb dX10_shared_169 (nzL_ne g149) ?_
          refine lv_lload hx hb dX10_shared_170 (lv_at hl 6 rfl) ?_
          refine W.lcmp hx hb dX10_shared_172 ?_
          refine lv_if_ne (tgt := 186) hx hb dX10_shared_173 (by decide) (fun c => ?_) (fun c => ?_)
          · have hf := ifn hf c
            refine lv_iconst hx hb dX10_shared_186 ki_0 ?_
            refine lv_iadd hx hb dX10_shared_187 ?_
            refine lv_topi (fun x150 ex150 => ?_)
            have hf := nm_el hf ex150
            refine lv_istore (lv' := [(9, .int x150), (5, .long l145), (11, .long l143), (0, .ref a0), (1, .int x1), (2, .int x2), (3, .long l3), (7, .long l7), (10, .int x10)]) hx hb dX10_shared_188 hl (by decide) rfl (fun ls hl => ?_)
            obtain ⟨x151, ex151⟩ : ∃ z : Int32, z = x10 + 1 := ⟨_, rfl⟩
            have hf := nm_el hf ex151
            refine lv_iinc (v := x151) (lv' := [(10, .int x151), (9, .int x150), (5, .long l145), (11, .long l143), (0, .ref a0), (1, .int x1), (2, .int x2), (3, .long l3), (7, .long l7)]) hx hb dX10_shared_190 hl (k := 8) rfl (by rw [ex151, ki_1]) (by decide) rfl (fun ls hl => ?_)
            refine lv_goto (tgt := 114) hx hb dX10_shared_193 (by decide) ?_
            exact ih _ _ _ _ _ _ _ (lv_sub hl [4, 5, 6, 7, 2, 8, 1, 0] rfl) hw hf
          · have hf := ifp hf c
            refine lv_iload hx hb dX10_shared_176 (lv_at hl 8 rfl) ?_
            refine lv_iload_n hx hb dX10_shared_178 rfl (lv_at hl 4 rfl) ?_
            refine lv_icmp_ge (tgt := 186) hx hb dX10_shared_179 (by decide) (fun c => ?_) (fun c => ?_)
            · have hf := ifp hf c
              refine lv_iconst hx hb dX10_shared_186 ki_0 ?_
              refine lv_iadd hx hb dX10_shared_187 ?_
              refine lv_topi (fun x152 ex152 => ?_)
              have hf := nm_el hf ex152
              refine lv_istore (lv' := [(9, .int x152), (5, .long l145), (11, .long l143), (0, .ref a0), (1, .int x1), (2, .int x2), (3, .long l3), (7, .long l7), (10, .int x10)]) hx hb dX10_shared_188 hl (by decide) rfl (fun ls hl => ?_)
              obtain ⟨x153, ex153⟩ : ∃ z : Int32, z = x10 + 1 := ⟨_, rfl⟩
              have hf := nm_el hf ex153
              refine lv_iinc (v := x153) (lv' := [(10, .int x153), (9, .int x152), (5, .long l145), (11, .long l143), (0, .ref a0), (1, .int x1), (2, .int x2), (3, .long l3), (7, .long l7)]) hx hb dX10_shared_190 hl (k := 8) rfl (by rw [ex153, ki_1]) (by decide) rfl (fun ls hl => ?_)
              refine lv_goto (tgt := 114) hx hb dX10_shared_193 (by decide) ?_
              exact ih _ _ _ _ _ _ _ (lv_sub hl [4, 5, 6, 7, 2, 8, 1, 0] rfl) hw hf
            · have hf := ifn hf c
              refine lv_iconst hx hb dX10_shared_182 ki_1 ?_
              refine lv_goto (tgt := 187) hx hb dX10_shared_183 (by decide) ?_
              refine lv_iadd hx hb dX10_shared_187 ?_
              refine lv_topi (fun x154 ex154 => ?_)
              have hf := nm_el hf ex154
              refine lv_istore (lv' := [(9, .int x154), (5, .long l145), (11, .long l143), (0, .ref a0), (1, .int x1), (2, .int x2), (3, .long l3), (7, .long l7), (10, .int x10)]) hx hb dX10_shared_188 hl (by decide) rfl (fun ls hl => ?_)
              obtain ⟨x155, ex155⟩ : ∃ z : Int32, z = x10 + 1 := ⟨_, rfl⟩
              have hf := nm_el hf ex155
              refine lv_iinc (v := x155) (lv' := [(10, .int x155), (9, .int x154), (5, .long l145), (11, .long l143), (0, .ref a0), (1, .int x1), (2, .int x2), (3, .long l3), (7, .long l7)]) hx hb dX10_shared_190 hl (k := 8) rfl (by rw [ex155, ki_1]) (by decide) rfl (fun ls hl => ?_)
              refine lv_goto (tgt := 114) hx hb dX10_shared_193 (by decide) ?_
              exact ih _ _ _ _ _ _ _ (lv_sub hl [4, 5, 6, 7, 2, 8, 1, 0] rfl) hw hf
set_option maxHeartbeats 4000000 in
set_option maxRecDepth 100000 in
theorem w_X10_shared_h30 {p : Program} {l : Launch} {e : Env} {s : State} {m : MethodId} {args : Array Value} {below : List Frame} {meth : Method} {c : Code} {D : va_G} {E : Nat → ClassId} {tU : Nat} {m0 mE : XMem} {rE : Int32} (C : Cx p s m args c cX10_shared 13 RX10 D E (Am m0) tU) (hr : meth.sig.returnType = ((Option.some FieldType.int))) (hk : meth.locks = false) (hnm : meth.name = yX10_shared.name) {a0 : Nat} {x1 : Int32} {x2 : Int32} (ta0 : mT m0 a0 = some (.inl 10)) {k69 : Int64 →  XMem → Option (Int32 × XMem)} (hk69 : ∀ (y3 : Int64) (mu : XMem) (H : Heap) (locs : List Loc) (ls : Array Slot), lv_has ls 13 [(0, .ref a0), (1, .int x1), (2, .int x2), (3, .long y3)] → Wd D E (Am m0) s (mT m0) mu H locs →   k69 y3 mu = some (rE, mE) → W p l e (rmN 4 0 0) s m args below meth c H locs 0 0 (MQ below (XQ D E (Am m0) (some (.int rE)) mE (mT mE = mT m0 ∧ True)) args s 0 0 (Am m0)) (F0 m 69 ls [])) : ∀ (n : Nat) (l3 : Int64) (x5 : Int32) (mu : XMem) (H : Heap) (locs : List Loc) (ls : Array Slot), lv_has ls 13 [(0, .ref a0), (1, .int x1), (2, .int x2), (3, .long l3), (5, .int x5)] → Wd D E (Am m0) s (mT m0) mu H locs → f_X10_shared_h30 a0 x1 x2 k69 n l3 x5 mu = some (rE, mE) → W p l e (rmN 4 0 0) s m args below meth c H locs 0 0 (MQ below (XQ D E (Am m0) (some (.int rE)) mE (mT mE = mT m0 ∧ True)) args s 0 0 (Am m0)) (F0 m 30 ls []) := by
  have hx := C.1
  have hb := C.2.1
  intro n
  induction n with
  | zero =>
    intros
    rename_i hf
    cases hf
  | succ n ih =>
    intro l3 x5 mu H locs ls hl hw hf
    rw [f_X10_shared_h30] at hf
    refine lv_iload hx hb dX10_shared_30 (lv_at hl 4 rfl) ?_
    refine lv_aload_n hx hb dX10_shared_32 rfl (lv_at hl 0 rfl) ?_
    obtain ⟨b126, eb126, hf⟩ := fo_el hf
    refine x_getR C hw fa_X10_7 (Or.inr ⟨_, rfl⟩) ta0 eb126 dX10_shared_33 (fun tb126 => ?_)
    have tb126 : ∃ n, (mT m0) b126 = some (.inr (0, n)) := tb126
    refine lv_iconst hx hb dX10_shared_36 ki_3 ?_
    obtain ⟨g127, hf⟩ := gd_el hf
    refine x_iald C hw tb126 g127 dX10_shared_37 ?_
    refine lv_icmp_ge (tgt := 69) hx hb dX10_shared_38 (by decide) (fun c => ?_) (fun c => ?_)
    · have hf := ifp hf c
      exact hk69 _ _ _ _ _ (lv_sub hl [0, 1, 2, 3] rfl) hw hf
    · have hf := ifn hf c
      refine lv_lload_n hx hb dX10_shared_41 rfl (lv_at hl 3 rfl) ?_
      refine lv_aload_n hx hb dX10_shared_42 rfl (lv_at hl 0 rfl) ?_
      refine lv_iload hx hb dX10_shared_43 (lv_at hl 4 rfl) ?_
      obtain ⟨r129, m128, cm128, hf⟩ := b2_el (o := f_X10_gets a0 x5 mu) hf
      refine x_callVi (As := [.int x5]) (rest := [.long l3]) C hl.1 hw cb_X10_213 cv_X10_gets (k_X10_gets hw.2.2.2.2 ta0 cm128) ta0 rfl rfl (by decide) ⟨Nat.le_refl _, Nat.le_refl _⟩ rfl (Nat.le_of_ble_eq_true rfl) dX10_shared_45 (fun H locs hw tr129 => ?_)
      refine lv_if_eq (tgt := 60) hx hb dX10_shared_48 (by decide) (fun c => ?_) (fun c => ?_)
      · have hf := ifp hf c
        refine lv_lconst hx hb dX10_shared_60 kl_0 ?_
        refine lv_ladd hx hb dX10_shared_61 ?_
        refine lv_topl (fun l130 el130 => ?_)
        have hf := nm_el hf el130
        refine lv_lstore_n (lv' := [(3, .long l130), (0, .ref a0), (1, .int x1), (2, .int x2), (5, .int x5)]) hx hb dX10_shared_62 rfl hl (by decide) rfl (fun ls hl => ?_)
        obtain ⟨x131, ex131⟩ : ∃ z : Int32, z = x5 + 1 := ⟨_, rfl⟩
        have hf := nm_el hf ex131
        refine lv_iinc (v := x131) (lv' := [(5, .int x131), (3, .long l130), (0, .ref a0), (1, .int x1), (2, .int x2)]) hx hb dX10_shared_63 hl (k := 4) rfl (by rw [ex131, ki_1]) (by decide) rfl (fun ls hl => ?_)
        refine lv_goto (tgt := 30) hx hb dX10_shared_66 (by decide) ?_
        exact ih _ _ _ _ _ _ (lv_sub hl [2, 3, 4, 1, 0] rfl) hw hf
      · have hf := ifn hf c
        refine lv_aload_n hx hb dX10_shared_51 rfl (lv_at hl 0 rfl) ?_
        refine lv_iload hx hb dX10_shared_52 (lv_at hl 4 rfl) ?_
        obtain ⟨l133, m132, cm132, hf⟩ := b2_el (o := f_X10_itsBalance a0 x5 m128) hf
        refine x_callVl (As := [.int x5]) (rest := [.long l3]) C hl.1 hw cb_X10_200 cv_X10_itsBalance (k_X10_itsBalance hw.2.2.2.2 ta0 cm132) ta0 rfl rfl (by decide) ⟨Nat.le_refl _, Nat.le_refl _⟩ rfl (Nat.le_of_ble_eq_true rfl) dX10_shared_54 (fun H locs hw tl133 => ?_)
        refine lv_goto (tgt := 61) hx hb dX10_shared_57 (by decide) ?_
        refine lv_ladd hx hb dX10_shared_61 ?_
        refine lv_topl (fun l134 el134 => ?_)
        have hf := nm_el hf el134
        refine lv_lstore_n (lv' := [(3, .long l134), (0, .ref a0), (1, .int x1), (2, .int x2), (5, .int x5)]) hx hb dX10_shared_62 rfl hl (by decide) rfl (fun ls hl => ?_)
        obtain ⟨x135, ex135⟩ : ∃ z : Int32, z = x5 + 1 := ⟨_, rfl⟩
        have hf := nm_el hf ex135
        refine lv_iinc (v := x135) (lv' := [(5, .int x135), (3, .long l134), (0, .ref a0), (1, .int x1), (2, .int x2)]) hx hb dX10_shared_63 hl (k := 4) rfl (by rw [ex135, ki_1]) (by decide) rfl (fun ls hl => ?_)
        refine lv_goto (tgt := 30) hx hb dX10_shared_66 (by decide) ?_
        exact ih _ _ _ _ _ _ (lv_sub hl [2, 3, 4, 1, 0] rfl) hw hf
set_option maxHeartbeats 4000000 in
set_option maxRecDepth 100000 in
theorem k_X10_shared {l : Launch} {D : va_G} {E : Nat → ClassId} {tU : Nat} {τ : Nat → Option XTy} {a0 : Nat} {x1 : Int32} {x2 : Int32} {m0 mE : XMem} {rE : Int32} (hm : mT m0 = τ) (ta0 : τ a0 = some (.inl 10)) (hf : f_X10_shared a0 x1 x2 m0 = some (rE, mE)) : Ct l yX10_shared cX10_shared 13 ((Option.some FieldType.int)) 4 0 0 D E tU [.ref a0, .int x1, .int x2] m0 (some (.int rE)) mE (mT mE = mT m0 ∧ True) := by
  subst hm
  refine Ct.of (by decide) (Nat.le_of_ble_eq_true rfl) (fun p e s m below meth c ls C hr hk hnm hl hw => ?_)
  have hx := C.1
  have hb := C.2.1
  have hl : lv_has ls 13 [(0, .ref a0), (1, .int x1), (2, .int x2)] := hl
  unfold f_X10_shared at hf
  refine lv_iload_n hx hb dX10_shared_0 rfl (lv_at hl 1 rfl) ?_
  refine lv_iconst hx hb dX10_shared_1 ki_0 ?_
  refine lv_ldc hx hb C.2.2.2.1 (C.2.2.2.2.1 _ ki_X10_212) dX10_shared_2 ?_
  obtain ⟨r102, m101, cm101, hf⟩ := b2_el (o := f_X10_within x1 0 999999 m0) hf
  refine x_callSi (As := [.int x1, .int 0, .int 999999]) (rest := []) C hl.1 hw cb_X10_62 cs_X10_within (k_X10_within hw.2.2.2.2  cm101) rfl (by decide) ⟨Nat.le_refl _, Nat.le_refl _⟩ rfl (Nat.le_of_ble_eq_true rfl) dX10_shared_4 (fun H locs hw tr102 => ?_)
  refine lv_if_eq (tgt := 18) hx hb dX10_shared_7 (by decide) (fun c => ?_) (fun c => ?_)
  · have hf := ifp hf c
    refine lv_aload_n hx hb dX10_shared_18 rfl (lv_at hl 0 rfl) ?_
    refine lv_ldc hx hb C.2.2.2.1 (C.2.2.2.2.1 _ ki_X10_61) dX10_shared_19 ?_
    obtain ⟨r104, m103, cm103, hf⟩ := b2_el (o := f_X10_finds a0 (-1000000001) m101) hf
    refine x_callVi (As := [.int (-1000000001)]) (rest := []) C hl.1 hw cb_X10_67 cv_X10_finds (k_X10_finds hw.2.2.2.2 ta0 cm103) ta0 rfl rfl (by decide) ⟨Nat.le_refl _, Nat.le_refl _⟩ rfl (Nat.le_of_ble_eq_true rfl) dX10_shared_21 (fun H locs hw tr104 => ?_)
    exact x_retI C hr hk hw  hf (by decide) (by decide) dX10_shared_24
  · have hf := ifn hf c
    refine lv_aload_n hx hb dX10_shared_10 rfl (lv_at hl 0 rfl) ?_
    refine lv_iload_n hx hb dX10_shared_11 rfl (lv_at hl 2 rfl) ?_
    obtain ⟨r106, m105, cm105, hf⟩ := b2_el (o := f_X10_isHouse a0 x2 m101) hf
    refine x_callVi (As := [.int x2]) (rest := []) C hl.1 hw cb_X10_204 cv_X10_isHouse (k_X10_isHouse hw.2.2.2.2 ta0 cm105) ta0 rfl rfl (by decide) ⟨Nat.le_refl _, Nat.le_refl _⟩ rfl (Nat.le_of_ble_eq_true rfl) dX10_shared_12 (fun H locs hw tr106 => ?_)
    refine lv_if_ne (tgt := 25) hx hb dX10_shared_15 (by decide) (fun c => ?_) (fun c => ?_)
    · have hf := ifn hf c
      refine lv_lconst hx hb dX10_shared_25 kl_0 ?_
      refine lv_lstore_n (lv' := [(3, .long 0), (0, .ref a0), (1, .int x1), (2, .int x2)]) hx hb dX10_shared_26 rfl hl (by decide) rfl (fun ls hl => ?_)
      refine lv_iconst hx hb dX10_shared_27 ki_0 ?_
      refine lv_istore (lv' := [(5, .int 0), (3, .long 0), (0, .ref a0), (1, .int x1), (2, .int x2)]) hx hb dX10_shared_28 hl (by decide) rfl (fun ls hl => ?_)
      refine w_X10_shared_h30 C hr hk hnm ta0 ?_ 2000 _ _ _ _ _ _ (lv_sub hl [2, 3, 4, 1, 0] rfl) hw hf
      intro l108 m107 H locs ls hl hw hf
      refine lv_lload_n hx hb dX10_shared_69 rfl (lv_at hl 3 rfl) ?_
      refine lv_lconst hx hb dX10_shared_70 kl_0 ?_
      refine W.lcmp hx hb dX10_shared_71 ?_
      refine lv_if_ne (tgt := 82) hx hb dX10_shared_72 (by decide) (fun c => ?_) (fun c => ?_)
      · have hf := ifn hf c
        refine lv_aload_n hx hb dX10_shared_82 rfl (lv_at hl 0 rfl) ?_
        refine lv_iload_n hx hb dX10_shared_83 rfl (lv_at hl 2 rfl) ?_
        obtain ⟨r110, m109, cm109, hf⟩ := b2_el (o := f_X10_gets a0 x2 m107) hf
        refine x_callVi (As := [.int x2]) (rest := []) C hl.1 hw cb_X10_213 cv_X10_gets (k_X10_gets hw.2.2.2.2 ta0 cm109) ta0 rfl rfl (by decide) ⟨Nat.le_refl _, Nat.le_refl _⟩ rfl (Nat.le_of_ble_eq_true rfl) dX10_shared_84 (fun H locs hw tr110 => ?_)
        refine lv_if_ne (tgt := 92) hx hb dX10_shared_87 (by decide) (fun c => ?_) (fun c => ?_)
        · have hf := ifn hf c
          refine lv_iload_n hx hb dX10_shared_92 rfl (lv_at hl 1 rfl) ?_
          refine lv_i2l (v := (Int32.toInt64 x1)) hx hb dX10_shared_93 rfl ?_
          refine lv_topl (fun l111 el111 => ?_)
          have hf := nm_el hf el111
          refine lv_lstore (lv' := [(5, .long l111), (0, .ref a0), (1, .int x1), (2, .int x2), (3, .long l108)]) hx hb dX10_shared_94 hl (by decide) rfl (fun ls hl => ?_)
          refine lv_iload_n hx hb dX10_shared_96 rfl (lv_at hl 2 rfl) ?_
          refine lv_i2l (v := (Int32.toInt64 x1)) hx hb dX10_shared_97 rfl ?_
          refine lv_aload_n hx hb dX10_shared_98 rfl (lv_at hl 1 rfl) ?_
          refine lv_iload_n hx hb dX10_shared_99 rfl (lv_at hl 3 rfl) ?_
          obtain ⟨l113, m112, cm112, hf⟩ := b2_el (o := f_X10_itsBalance a0 x2 m109) hf
          refine x_callVl (As := [.int x2]) (rest := [.long (Int32.toInt64 x1)]) C hl.1 hw cb_X10_200 cv_X10_itsBalance (k_X10_itsBalance hw.2.2.2.2 ta0 cm112) ta0 rfl rfl (by decide) ⟨Nat.le_refl _, Nat.le_refl _⟩ rfl (Nat.le_of_ble_eq_true rfl) dX10_shared_100 (fun H locs hw tl113 => ?_)
          refine lv_lmul hx hb dX10_shared_103 ?_
          refine lv_lload_n hx hb dX10_shared_104 rfl (lv_at hl 4 rfl) ?_
          obtain ⟨g114, hf⟩ := gd_el hf
          refine lv_lrem hx hb dX10_shared_105 (nzL_ne g114) ?_
          refine lv_topl (fun l115 el115 => ?_)
          have hf := nm_el hf el115
          refine lv_lstore (lv' := [(7, .long l115), (5, .long l111), (0, .ref a0), (1, .int x1), (2, .int x2), (3, .long l108)]) hx hb dX10_shared_106 hl (by decide) rfl (fun ls hl => ?_)
          refine lv_iconst hx hb dX10_shared_108 ki_0 ?_
          refine lv_istore (lv' := [(9, .int 0), (7, .long l115), (5, .long l111), (0, .ref a0), (1, .int x1), (2, .int x2), (3, .long l108)]) hx hb dX10_shared_109 hl (by decide) rfl (fun ls hl => ?_)
          refine lv_iconst hx hb dX10_shared_111 ki_0 ?_
          refine lv_istore (lv' := [(10, .int 0), (9, .int 0), (7, .long l115), (5, .long l111), (0, .ref a0), (1, .int x1), (2, .int x2), (3, .long l108)]) hx hb dX10_shared_112 hl (by decide) rfl (fun ls hl => ?_)
          refine w_X10_shared_h114 C hr hk hnm ta0 ?_ 2000 _ _ _ _ _ _ _ (lv_sub hl [4, 5, 6, 7, 3, 2, 1, 0] rfl) hw hf
          intro l117 x118 m116 H locs ls hl hw hf
          refine lv_iload_n hx hb dX10_shared_196 rfl (lv_at hl 1 rfl) ?_
          refine lv_i2l (v := (Int32.toInt64 x1)) hx hb dX10_shared_197 rfl ?_
          refine lv_aload_n hx hb dX10_shared_198 rfl (lv_at hl 0 rfl) ?_
          refine lv_iload_n hx hb dX10_shared_199 rfl (lv_at hl 2 rfl) ?_
          obtain ⟨l120, m119, cm119, hf⟩ := b2_el (o := f_X10_itsBalance a0 x2 m116) hf
          refine x_callVl (As := [.int x2]) (rest := [.long (Int32.toInt64 x1)]) C hl.1 hw cb_X10_200 cv_X10_itsBalance (k_X10_itsBalance hw.2.2.2.2 ta0 cm119) ta0 rfl rfl (by decide) ⟨Nat.le_refl _, Nat.le_refl _⟩ rfl (Nat.le_of_ble_eq_true rfl) dX10_shared_200 (fun H locs hw tl120 => ?_)
          refine lv_lmul hx hb dX10_shared_203 ?_
          refine lv_lload_n hx hb dX10_shared_204 rfl (lv_at hl 3 rfl) ?_
          obtain ⟨g121, hf⟩ := gd_el hf
          refine lv_ldiv hx hb dX10_shared_205 (nzL_ne g121) ?_
          refine lv_l2i (v := (Int64.toInt32 (((Int32.toInt64 x1) * l120) / l108))) hx hb dX10_shared_206 rfl ?_
          refine lv_iload hx hb dX10_shared_207 (lv_at hl 5 rfl) ?_
          refine lv_i2l (v := (Int32.toInt64 x118)) hx hb dX10_shared_209 rfl ?_
          refine lv_lload hx hb dX10_shared_210 (lv_at hl 4 rfl) ?_
          refine W.lcmp hx hb dX10_shared_212 ?_
          refine lv_if_ge (tgt := 220) hx hb dX10_shared_213 (by decide) (fun c => ?_) (fun c => ?_)
          · have hf := ifp hf c
            refine lv_iconst hx hb dX10_shared_220 ki_0 ?_
            refine lv_iadd hx hb dX10_shared_221 ?_
            exact x_retI C hr hk hw  hf (by decide) (by decide) dX10_shared_222
          · have hf := ifn hf c
            refine lv_iconst hx hb dX10_shared_216 ki_1 ?_
            refine lv_goto (tgt := 221) hx hb dX10_shared_217 (by decide) ?_
            refine lv_iadd hx hb dX10_shared_221 ?_
            exact x_retI C hr hk hw  hf (by decide) (by decide) dX10_shared_222
        · have hf := ifp hf c
          refine lv_iconst hx hb dX10_shared_90 ki_0 ?_
          exact x_retI C hr hk hw  hf (by decide) (by decide) dX10_shared_91
      · have hf := ifp hf c
        refine lv_aload_n hx hb dX10_shared_75 rfl (lv_at hl 0 rfl) ?_
        refine lv_ldc hx hb C.2.2.2.1 (C.2.2.2.2.1 _ ki_X10_207) dX10_shared_76 ?_
        obtain ⟨r123, m122, cm122, hf⟩ := b2_el (o := f_X10_finds a0 (-1000000004) m107) hf
        refine x_callVi (As := [.int (-1000000004)]) (rest := []) C hl.1 hw cb_X10_67 cv_X10_finds (k_X10_finds hw.2.2.2.2 ta0 cm122) ta0 rfl rfl (by decide) ⟨Nat.le_refl _, Nat.le_refl _⟩ rfl (Nat.le_of_ble_eq_true rfl) dX10_shared_78 (fun H locs hw tr123 => ?_)
        exact x_retI C hr hk hw  hf (by decide) (by decide) dX10_shared_81
    · have hf := ifp hf c
      refine lv_aload_n hx hb dX10_shared_18 rfl (lv_at hl 0 rfl) ?_
      refine lv_ldc hx hb C.2.2.2.1 (C.2.2.2.2.1 _ ki_X10_61) dX10_shared_19 ?_
      obtain ⟨r125, m124, cm124, hf⟩ := b2_el (o := f_X10_finds a0 (-1000000001) m105) hf
      refine x_callVi (As := [.int (-1000000001)]) (rest := []) C hl.1 hw cb_X10_67 cv_X10_finds (k_X10_finds hw.2.2.2.2 ta0 cm124) ta0 rfl rfl (by decide) ⟨Nat.le_refl _, Nat.le_refl _⟩ rfl (Nat.le_of_ble_eq_true rfl) dX10_shared_21 (fun H locs hw tr125 => ?_)
      exact x_retI C hr hk hw  hf (by decide) (by decide) dX10_shared_24
set_option maxHeartbeats 4000000 in
set_option maxRecDepth 100000 in
theorem w_X10_sheet_h85 {p : Program} {l : Launch} {e : Env} {s : State} {m : MethodId} {args : Array Value} {below : List Frame} {meth : Method} {c : Code} {D : va_G} {E : Nat → ClassId} {tU : Nat} {m0 mE : XMem} {rE : Int32} (C : Cx p s m args c cX10_sheet 5 RX10 D E (Am m0) tU) (hr : meth.sig.returnType = ((Option.some FieldType.int))) (hk : meth.locks = false) (hnm : meth.name = yX10_sheet.name) {a0 : Nat} {x1 : Int32} (ta0 : mT m0 a0 = some (.inl 10)) {k111 :  XMem → Option (Int32 × XMem)} (hk111 : ∀  (mu : XMem) (H : Heap) (locs : List Loc) (ls : Array Slot), lv_has ls 5 [(0, .ref a0), (1, .int x1)] → Wd D E (Am m0) s (mT m0) mu H locs →   k111  mu = some (rE, mE) → W p l e (rmN 3 0 0) s m args below meth c H locs 0 0 (MQ below (XQ D E (Am m0) (some (.int rE)) mE (mT mE = mT m0 ∧ True)) args s 0 0 (Am m0)) (F0 m 111 ls [])) : ∀ (n : Nat) (x4 : Int32) (mu : XMem) (H : Heap) (locs : List Loc) (ls : Array Slot), lv_has ls 5 [(0, .ref a0), (1, .int x1), (4, .int x4)] → Wd D E (Am m0) s (mT m0) mu H locs → f_X10_sheet_h85 a0 x1 k111 n x4 mu = some (rE, mE) → W p l e (rmN 3 0 0) s m args below meth c H locs 0 0 (MQ below (XQ D E (Am m0) (some (.int rE)) mE (mT mE = mT m0 ∧ True)) args s 0 0 (Am m0)) (F0 m 85 ls []) := by
  have hx := C.1
  have hb := C.2.1
  intro n
  induction n with
  | zero =>
    intros
    rename_i hf
    cases hf
  | succ n ih =>
    intro x4 mu H locs ls hl hw hf
    rw [f_X10_sheet_h85] at hf
    refine lv_iload hx hb dX10_sheet_85 (lv_at hl 2 rfl) ?_
    refine lv_bipush hx hb dX10_sheet_87 kb_40 ?_
    refine lv_icmp_ge (tgt := 111) hx hb dX10_sheet_89 (by decide) (fun c => ?_) (fun c => ?_)
    · have hf := ifp hf c
      exact hk111 _ _ _ _ (lv_sub hl [0, 1] rfl) hw hf
    · have hf := ifn hf c
      refine lv_aload_n hx hb dX10_sheet_92 rfl (lv_at hl 0 rfl) ?_
      obtain ⟨b120, eb120, hf⟩ := fo_el hf
      refine x_getR C hw fa_X10_55 (Or.inr ⟨_, rfl⟩) ta0 eb120 dX10_sheet_93 (fun tb120 => ?_)
      have tb120 : ∃ n, (mT m0) b120 = some (.inr (2, n)) := tb120
      refine lv_bipush hx hb dX10_sheet_96 kb_40 ?_
      refine lv_iload_n hx hb dX10_sheet_98 rfl (lv_at hl 1 rfl) ?_
      refine lv_imul hx hb dX10_sheet_99 ?_
      refine lv_iload hx hb dX10_sheet_100 (lv_at hl 2 rfl) ?_
      refine lv_iadd hx hb dX10_sheet_102 ?_
      refine lv_lconst hx hb dX10_sheet_103 kl_0 ?_
      obtain ⟨g121, hf⟩ := gd_el hf
      refine x_last C hw tb120 g121 dX10_sheet_104 (fun m122 H locs em122 hw => ?_)
      have hf := nm_el hf em122
      obtain ⟨x123, ex123⟩ : ∃ z : Int32, z = x4 + 1 := ⟨_, rfl⟩
      have hf := nm_el hf ex123
      refine lv_iinc (v := x123) (lv' := [(4, .int x123), (0, .ref a0), (1, .int x1)]) hx hb dX10_sheet_105 hl (k := 2) rfl (by rw [ex123, ki_1]) (by decide) rfl (fun ls hl => ?_)
      refine lv_goto (tgt := 85) hx hb dX10_sheet_108 (by decide) ?_
      exact ih _ _ _ _ _ (lv_sub hl [1, 2, 0] rfl) hw hf
set_option maxHeartbeats 4000000 in
set_option maxRecDepth 100000 in
theorem w_X10_sheet_j81 {p : Program} {l : Launch} {e : Env} {s : State} {m : MethodId} {args : Array Value} {below : List Frame} {meth : Method} {c : Code} {D : va_G} {E : Nat → ClassId} {tU : Nat} {m0 mE : XMem} {rE : Int32} (C : Cx p s m args c cX10_sheet 5 RX10 D E (Am m0) tU) (hr : meth.sig.returnType = ((Option.some FieldType.int))) (hk : meth.locks = false) (hnm : meth.name = yX10_sheet.name) {a0 : Nat} {x1 : Int32} {xs0 : Int32} {xs1 : Int32} {as2 : Nat} {mu : XMem} {H : Heap} {locs : List Loc} {ls : Array Slot} (ta0 : mT m0 a0 = some (.inl 10)) (tas2 : ∃ n, mT m0 as2 = some (.inr (0, n))) (hl : lv_has ls 5 [(0, .ref a0), (1, .int x1)]) (hw : Wd D E (Am m0) s (mT m0) mu H locs) (hf : f_X10_sheet_j81 a0 x1 xs0 xs1 as2 mu = some (rE, mE)) : W p l e (rmN 3 0 0) s m args below meth c H locs 0 0 (MQ below (XQ D E (Am m0) (some (.int rE)) mE (mT mE = mT m0 ∧ True)) args s 0 0 (Am m0)) (F0 m 81 ls [.int xs0, .int xs1, .ref as2]) := by
  have hx := C.1
  have hb := C.2.1
  unfold f_X10_sheet_j81 at hf
  obtain ⟨g115, hf⟩ := gd_el hf
  refine x_iast C hw tas2 g115 dX10_sheet_81 (fun m116 H locs em116 hw => ?_)
  have hf := nm_el hf em116
  refine lv_iconst hx hb dX10_sheet_82 ki_0 ?_
  refine lv_istore (lv' := [(4, .int 0), (0, .ref a0), (1, .int x1)]) hx hb dX10_sheet_83 hl (by decide) rfl (fun ls hl => ?_)
  refine w_X10_sheet_h85 C hr hk hnm ta0 ?_ 2000 _ _ _ _ _ (lv_sub hl [1, 2, 0] rfl) hw hf
  intro m117 H locs ls hl hw hf
  refine lv_aload_n hx hb dX10_sheet_111 rfl (lv_at hl 0 rfl) ?_
  obtain ⟨b118, eb118, hf⟩ := fo_el hf
  refine x_getR C hw fa_X10_52 (Or.inr ⟨_, rfl⟩) ta0 eb118 dX10_sheet_112 (fun tb118 => ?_)
  have tb118 : ∃ n, (mT m0) b118 = some (.inr (0, n)) := tb118
  refine lv_iload_n hx hb dX10_sheet_115 rfl (lv_at hl 1 rfl) ?_
  obtain ⟨g119, hf⟩ := gd_el hf
  refine x_iald C hw tb118 g119 dX10_sheet_116 ?_
  exact x_retI C hr hk hw  hf (by decide) (by decide) dX10_sheet_117
set_option maxHeartbeats 4000000 in
set_option maxRecDepth 100000 in
theorem w_X10_sheet_j36 {p : Program} {l : Launch} {e : Env} {s : State} {m : MethodId} {args : Array Value} {below : List Frame} {meth : Method} {c : Code} {D : va_G} {E : Nat → ClassId} {tU : Nat} {m0 mE : XMem} {rE : Int32} (C : Cx p s m args c cX10_sheet 5 RX10 D E (Am m0) tU) (hr : meth.sig.returnType = ((Option.some FieldType.int))) (hk : meth.locks = false) (hnm : meth.name = yX10_sheet.name) {a0 : Nat} {x1 : Int32} {x2 : Int32} {x3 : Int32} {mu : XMem} {H : Heap} {locs : List Loc} {ls : Array Slot} (ta0 : mT m0 a0 = some (.inl 10)) (hl : lv_has ls 5 [(0, .ref a0), (1, .int x1), (2, .int x2), (3, .int x3)]) (hw : Wd D E (Am m0) s (mT m0) mu H locs) (hf : f_X10_sheet_j36 a0 x1 x2 x3 mu = some (rE, mE)) : W p l e (rmN 3 0 0) s m args below meth c H locs 0 0 (MQ below (XQ D E (Am m0) (some (.int rE)) mE (mT mE = mT m0 ∧ True)) args s 0 0 (Am m0)) (F0 m 36 ls []) := by
  have hx := C.1
  have hb := C.2.1
  unfold f_X10_sheet_j36 at hf
  refine lv_iload_n hx hb dX10_sheet_36 rfl (lv_at hl 3 rfl) ?_
  refine lv_if_ge (tgt := 47) hx hb dX10_sheet_37 (by decide) (fun c => ?_) (fun c => ?_)
  · have hf := ifp hf c
    refine lv_iload_n hx hb dX10_sheet_47 rfl (lv_at hl 3 rfl) ?_
    refine lv_bipush hx hb dX10_sheet_48 kb_40 ?_
    refine lv_icmp_le (tgt := 60) hx hb dX10_sheet_50 (by decide) (fun c => ?_) (fun c => ?_)
    · have hf := ifp hf c
      refine lv_aload_n hx hb dX10_sheet_60 rfl (lv_at hl 0 rfl) ?_
      obtain ⟨b107, eb107, hf⟩ := fo_el hf
      refine x_getR C hw fa_X10_49 (Or.inr ⟨_, rfl⟩) ta0 eb107 dX10_sheet_61 (fun tb107 => ?_)
      have tb107 : ∃ n, (mT m0) b107 = some (.inr (0, n)) := tb107
      refine lv_iload_n hx hb dX10_sheet_64 rfl (lv_at hl 1 rfl) ?_
      refine lv_iload_n hx hb dX10_sheet_65 rfl (lv_at hl 2 rfl) ?_
      obtain ⟨g108, hf⟩ := gd_el hf
      refine x_iast C hw tb107 g108 dX10_sheet_66 (fun m109 H locs em109 hw => ?_)
      have hf := nm_el hf em109
      refine lv_aload_n hx hb dX10_sheet_67 rfl (lv_at hl 0 rfl) ?_
      obtain ⟨b110, eb110, hf⟩ := fo_el hf
      refine x_getR C hw fa_X10_52 (Or.inr ⟨_, rfl⟩) ta0 eb110 dX10_sheet_68 (fun tb110 => ?_)
      have tb110 : ∃ n, (mT m0) b110 = some (.inr (0, n)) := tb110
      refine lv_iload_n hx hb dX10_sheet_71 rfl (lv_at hl 1 rfl) ?_
      refine lv_iload_n hx hb dX10_sheet_72 rfl (lv_at hl 2 rfl) ?_
      refine lv_if_ne (tgt := 80) hx hb dX10_sheet_73 (by decide) (fun c => ?_) (fun c => ?_)
      · have hf := ifn hf c
        refine lv_iload_n hx hb dX10_sheet_80 rfl (lv_at hl 3 rfl) ?_
        exact w_X10_sheet_j81 C hr hk hnm ta0 tb110 (lv_sub hl [0, 1] rfl) hw hf
      · have hf := ifp hf c
        refine lv_iconst hx hb dX10_sheet_76 ki_0 ?_
        refine lv_goto (tgt := 81) hx hb dX10_sheet_77 (by decide) ?_
        exact w_X10_sheet_j81 C hr hk hnm ta0 tb110 (lv_sub hl [0, 1] rfl) hw hf
    · have hf := ifn hf c
      refine lv_aload_n hx hb dX10_sheet_53 rfl (lv_at hl 0 rfl) ?_
      refine lv_ldc hx hb C.2.2.2.1 (C.2.2.2.2.1 _ ki_X10_61) dX10_sheet_54 ?_
      obtain ⟨r112, m111, cm111, hf⟩ := b2_el (o := f_X10_finds a0 (-1000000001) mu) hf
      refine x_callVi (As := [.int (-1000000001)]) (rest := []) C hl.1 hw cb_X10_67 cv_X10_finds (k_X10_finds hw.2.2.2.2 ta0 cm111) ta0 rfl rfl (by decide) ⟨Nat.le_refl _, Nat.le_refl _⟩ rfl (Nat.le_of_ble_eq_true rfl) dX10_sheet_56 (fun H locs hw tr112 => ?_)
      exact x_retI C hr hk hw  hf (by decide) (by decide) dX10_sheet_59
  · have hf := ifn hf c
    refine lv_aload_n hx hb dX10_sheet_40 rfl (lv_at hl 0 rfl) ?_
    refine lv_ldc hx hb C.2.2.2.1 (C.2.2.2.2.1 _ ki_X10_242) dX10_sheet_41 ?_
    obtain ⟨r114, m113, cm113, hf⟩ := b2_el (o := f_X10_finds a0 (-1000000007) mu) hf
    refine x_callVi (As := [.int (-1000000007)]) (rest := []) C hl.1 hw cb_X10_67 cv_X10_finds (k_X10_finds hw.2.2.2.2 ta0 cm113) ta0 rfl rfl (by decide) ⟨Nat.le_refl _, Nat.le_refl _⟩ rfl (Nat.le_of_ble_eq_true rfl) dX10_sheet_43 (fun H locs hw tr114 => ?_)
    exact x_retI C hr hk hw  hf (by decide) (by decide) dX10_sheet_46
set_option maxHeartbeats 4000000 in
set_option maxRecDepth 100000 in
theorem k_X10_sheet {l : Launch} {D : va_G} {E : Nat → ClassId} {tU : Nat} {τ : Nat → Option XTy} {a0 : Nat} {x1 : Int32} {x2 : Int32} {x3 : Int32} {m0 mE : XMem} {rE : Int32} (hm : mT m0 = τ) (ta0 : τ a0 = some (.inl 10)) (hf : f_X10_sheet a0 x1 x2 x3 m0 = some (rE, mE)) : Ct l yX10_sheet cX10_sheet 5 ((Option.some FieldType.int)) 3 0 0 D E tU [.ref a0, .int x1, .int x2, .int x3] m0 (some (.int rE)) mE (mT mE = mT m0 ∧ True) := by
  subst hm
  refine Ct.of (by decide) (Nat.le_of_ble_eq_true rfl) (fun p e s m below meth c ls C hr hk hnm hl hw => ?_)
  have hx := C.1
  have hb := C.2.1
  have hl : lv_has ls 5 [(0, .ref a0), (1, .int x1), (2, .int x2), (3, .int x3)] := hl
  unfold f_X10_sheet at hf
  refine lv_iload_n hx hb dX10_sheet_0 rfl (lv_at hl 1 rfl) ?_
  obtain ⟨r102, m101, cm101, hf⟩ := b2_el (o := f_X10_isSheet x1 m0) hf
  refine x_callSi (As := [.int x1]) (rest := []) C hl.1 hw cb_X10_238 cs_X10_isSheet (k_X10_isSheet hw.2.2.2.2  cm101) rfl (by decide) ⟨Nat.le_refl _, Nat.le_refl _⟩ rfl (Nat.le_of_ble_eq_true rfl) dX10_sheet_1 (fun H locs hw tr102 => ?_)
  refine lv_if_eq (tgt := 29) hx hb dX10_sheet_4 (by decide) (fun c => ?_) (fun c => ?_)
  · have hf := ifp hf c
    refine lv_aload_n hx hb dX10_sheet_29 rfl (lv_at hl 0 rfl) ?_
    refine lv_ldc hx hb C.2.2.2.1 (C.2.2.2.2.1 _ ki_X10_61) dX10_sheet_30 ?_
    obtain ⟨r104, m103, cm103, hf⟩ := b2_el (o := f_X10_finds a0 (-1000000001) m101) hf
    refine x_callVi (As := [.int (-1000000001)]) (rest := []) C hl.1 hw cb_X10_67 cv_X10_finds (k_X10_finds hw.2.2.2.2 ta0 cm103) ta0 rfl rfl (by decide) ⟨Nat.le_refl _, Nat.le_refl _⟩ rfl (Nat.le_of_ble_eq_true rfl) dX10_sheet_32 (fun H locs hw tr104 => ?_)
    exact x_retI C hr hk hw  hf (by decide) (by decide) dX10_sheet_35
  · have hf := ifn hf c
    refine lv_iload_n hx hb dX10_sheet_7 rfl (lv_at hl 2 rfl) ?_
    refine lv_if_eq (tgt := 36) hx hb dX10_sheet_8 (by decide) (fun c => ?_) (fun c => ?_)
    · have hf := ifp hf c
      exact w_X10_sheet_j36 C hr hk hnm ta0 (lv_sub hl [0, 1, 2, 3] rfl) hw hf
    · have hf := ifn hf c
      refine lv_iload_n hx hb dX10_sheet_11 rfl (lv_at hl 2 rfl) ?_
      refine lv_bipush hx hb dX10_sheet_12 kb_8 ?_
      refine lv_icmp_eq (tgt := 36) hx hb dX10_sheet_14 (by decide) (fun c => ?_) (fun c => ?_)
      · have hf := ifp hf c
        exact w_X10_sheet_j36 C hr hk hnm ta0 (lv_sub hl [0, 1, 2, 3] rfl) hw hf
      · have hf := ifn hf c
        refine lv_iload_n hx hb dX10_sheet_17 rfl (lv_at hl 2 rfl) ?_
        refine lv_bipush hx hb dX10_sheet_18 kb_16 ?_
        refine lv_icmp_eq (tgt := 36) hx hb dX10_sheet_20 (by decide) (fun c => ?_) (fun c => ?_)
        · have hf := ifp hf c
          exact w_X10_sheet_j36 C hr hk hnm ta0 (lv_sub hl [0, 1, 2, 3] rfl) hw hf
        · have hf := ifn hf c
          refine lv_iload_n hx hb dX10_sheet_23 rfl (lv_at hl 2 rfl) ?_
          refine lv_bipush hx hb dX10_sheet_24 kb_64 ?_
          refine lv_icmp_eq (tgt := 36) hx hb dX10_sheet_26 (by decide) (fun c => ?_) (fun c => ?_)
          · have hf := ifp hf c
            exact w_X10_sheet_j36 C hr hk hnm ta0 (lv_sub hl [0, 1, 2, 3] rfl) hw hf
          · have hf := ifn hf c
            refine lv_aload_n hx hb dX10_sheet_29 rfl (lv_at hl 0 rfl) ?_
            refine lv_ldc hx hb C.2.2.2.1 (C.2.2.2.2.1 _ ki_X10_61) dX10_sheet_30 ?_
            obtain ⟨r106, m105, cm105, hf⟩ := b2_el (o := f_X10_finds a0 (-1000000001) m101) hf
            refine x_callVi (As := [.int (-1000000001)]) (rest := []) C hl.1 hw cb_X10_67 cv_X10_finds (k_X10_finds hw.2.2.2.2 ta0 cm105) ta0 rfl rfl (by decide) ⟨Nat.le_refl _, Nat.le_refl _⟩ rfl (Nat.le_of_ble_eq_true rfl) dX10_sheet_32 (fun H locs hw tr106 => ?_)
            exact x_retI C hr hk hw  hf (by decide) (by decide) dX10_sheet_35
set_option maxHeartbeats 4000000 in
set_option maxRecDepth 100000 in
theorem k_X10_show {l : Launch} {D : va_G} {E : Nat → ClassId} {tU : Nat} {τ : Nat → Option XTy} {a0 : Nat} {x1 : Int32} {m0 mE : XMem} {rE : Int32} (hm : mT m0 = τ) (ta0 : τ a0 = some (.inl 10)) (hf : f_X10_show a0 x1 m0 = some (rE, mE)) : Ct l yX10_show cX10_show 2 ((Option.some FieldType.int)) 3 0 0 D E tU [.ref a0, .int x1] m0 (some (.int rE)) mE (mT mE = mT m0 ∧ True) := by
  subst hm
  refine Ct.of (by decide) (Nat.le_of_ble_eq_true rfl) (fun p e s m below meth c ls C hr hk hnm hl hw => ?_)
  have hx := C.1
  have hb := C.2.1
  have hl : lv_has ls 2 [(0, .ref a0), (1, .int x1)] := hl
  unfold f_X10_show at hf
  refine lv_aload_n hx hb dX10_show_0 rfl (lv_at hl 0 rfl) ?_
  refine lv_iload_n hx hb dX10_show_1 rfl (lv_at hl 1 rfl) ?_
  obtain ⟨r102, m101, cm101, hf⟩ := b2_el (o := f_X10_isHouse a0 x1 m0) hf
  refine x_callVi (As := [.int x1]) (rest := []) C hl.1 hw cb_X10_204 cv_X10_isHouse (k_X10_isHouse hw.2.2.2.2 ta0 cm101) ta0 rfl rfl (by decide) ⟨Nat.le_refl _, Nat.le_refl _⟩ rfl (Nat.le_of_ble_eq_true rfl) dX10_show_2 (fun H locs hw tr102 => ?_)
  refine lv_if_ne (tgt := 15) hx hb dX10_show_5 (by decide) (fun c => ?_) (fun c => ?_)
  · have hf := ifn hf c
    refine lv_aload_n hx hb dX10_show_15 rfl (lv_at hl 0 rfl) ?_
    refine lv_iload_n hx hb dX10_show_16 rfl (lv_at hl 1 rfl) ?_
    refine lv_bipush hx hb dX10_show_17 kb_10 ?_
    refine lv_iconst hx hb dX10_show_19 ki_1 ?_
    obtain ⟨m103, cm103, hf⟩ := b1_el (o := f_X10_setHouse a0 x1 10 1 m101) hf
    refine x_callVv (As := [.int x1, .int 10, .int 1]) (rest := []) C hl.1 hw cb_X10_194 cv_X10_setHouse (k_X10_setHouse hw.2.2.2.2 ta0 cm103) ta0 rfl rfl (by decide) ⟨Nat.le_refl _, Nat.le_refl _⟩ rfl (Nat.le_of_ble_eq_true rfl) dX10_show_20 (fun H locs hw tm103 => ?_)
    refine lv_aload_n hx hb dX10_show_23 rfl (lv_at hl 0 rfl) ?_
    refine lv_iload_n hx hb dX10_show_24 rfl (lv_at hl 1 rfl) ?_
    refine lv_bipush hx hb dX10_show_25 kb_9 ?_
    obtain ⟨r105, m104, cm104, hf⟩ := b2_el (o := f_X10_ofHouse a0 x1 9 m103) hf
    refine x_callVi (As := [.int x1, .int 9]) (rest := []) C hl.1 hw cb_X10_197 cv_X10_ofHouse (k_X10_ofHouse hw.2.2.2.2 ta0 cm104) ta0 rfl rfl (by decide) ⟨Nat.le_refl _, Nat.le_refl _⟩ rfl (Nat.le_of_ble_eq_true rfl) dX10_show_27 (fun H locs hw tr105 => ?_)
    exact x_retI C hr hk hw  hf (by decide) (by decide) dX10_show_30
  · have hf := ifp hf c
    refine lv_aload_n hx hb dX10_show_8 rfl (lv_at hl 0 rfl) ?_
    refine lv_ldc hx hb C.2.2.2.1 (C.2.2.2.2.1 _ ki_X10_61) dX10_show_9 ?_
    obtain ⟨r107, m106, cm106, hf⟩ := b2_el (o := f_X10_finds a0 (-1000000001) m101) hf
    refine x_callVi (As := [.int (-1000000001)]) (rest := []) C hl.1 hw cb_X10_67 cv_X10_finds (k_X10_finds hw.2.2.2.2 ta0 cm106) ta0 rfl rfl (by decide) ⟨Nat.le_refl _, Nat.le_refl _⟩ rfl (Nat.le_of_ble_eq_true rfl) dX10_show_11 (fun H locs hw tr107 => ?_)
    exact x_retI C hr hk hw  hf (by decide) (by decide) dX10_show_14
set_option maxHeartbeats 4000000 in
set_option maxRecDepth 100000 in
theorem k_X10_since {l : Launch} {D : va_G} {E : Nat → ClassId} {tU : Nat} {τ : Nat → Option XTy} {a0 : Nat} {x1 : Int32} {x2 : Int32} {m0 mE : XMem} {rE : Int32} (hm : mT m0 = τ) (ta0 : τ a0 = some (.inl 10)) (hf : f_X10_since a0 x1 x2 m0 = some (rE, mE)) : Ct l yX10_since cX10_since 3 ((Option.some FieldType.int)) 3 0 0 D E tU [.ref a0, .int x1, .int x2] m0 (some (.int rE)) mE (mT mE = mT m0 ∧ True) := by
  subst hm
  refine Ct.of (by decide) (Nat.le_of_ble_eq_true rfl) (fun p e s m below meth c ls C hr hk hnm hl hw => ?_)
  have hx := C.1
  have hb := C.2.1
  have hl : lv_has ls 3 [(0, .ref a0), (1, .int x1), (2, .int x2)] := hl
  unfold f_X10_since at hf
  refine lv_aload_n hx hb dX10_since_0 rfl (lv_at hl 0 rfl) ?_
  refine lv_iload_n hx hb dX10_since_1 rfl (lv_at hl 1 rfl) ?_
  obtain ⟨r102, m101, cm101, hf⟩ := b2_el (o := f_X10_isHouse a0 x1 m0) hf
  refine x_callVi (As := [.int x1]) (rest := []) C hl.1 hw cb_X10_204 cv_X10_isHouse (k_X10_isHouse hw.2.2.2.2 ta0 cm101) ta0 rfl rfl (by decide) ⟨Nat.le_refl _, Nat.le_refl _⟩ rfl (Nat.le_of_ble_eq_true rfl) dX10_since_2 (fun H locs hw tr102 => ?_)
  refine lv_if_eq (tgt := 17) hx hb dX10_since_5 (by decide) (fun c => ?_) (fun c => ?_)
  · have hf := ifp hf c
    refine lv_aload_n hx hb dX10_since_17 rfl (lv_at hl 0 rfl) ?_
    refine lv_ldc hx hb C.2.2.2.1 (C.2.2.2.2.1 _ ki_X10_61) dX10_since_18 ?_
    obtain ⟨r104, m103, cm103, hf⟩ := b2_el (o := f_X10_finds a0 (-1000000001) m101) hf
    refine x_callVi (As := [.int (-1000000001)]) (rest := []) C hl.1 hw cb_X10_67 cv_X10_finds (k_X10_finds hw.2.2.2.2 ta0 cm103) ta0 rfl rfl (by decide) ⟨Nat.le_refl _, Nat.le_refl _⟩ rfl (Nat.le_of_ble_eq_true rfl) dX10_since_20 (fun H locs hw tr104 => ?_)
    exact x_retI C hr hk hw  hf (by decide) (by decide) dX10_since_23
  · have hf := ifn hf c
    refine lv_iload_n hx hb dX10_since_8 rfl (lv_at hl 2 rfl) ?_
    refine lv_iconst hx hb dX10_since_9 ki_0 ?_
    refine lv_iconst hx hb dX10_since_10 ki_1 ?_
    obtain ⟨r106, m105, cm105, hf⟩ := b2_el (o := f_X10_within x2 0 1 m101) hf
    refine x_callSi (As := [.int x2, .int 0, .int 1]) (rest := []) C hl.1 hw cb_X10_62 cs_X10_within (k_X10_within hw.2.2.2.2  cm105) rfl (by decide) ⟨Nat.le_refl _, Nat.le_refl _⟩ rfl (Nat.le_of_ble_eq_true rfl) dX10_since_11 (fun H locs hw tr106 => ?_)
    refine lv_if_ne (tgt := 24) hx hb dX10_since_14 (by decide) (fun c => ?_) (fun c => ?_)
    · have hf := ifn hf c
      refine lv_aload_n hx hb dX10_since_24 rfl (lv_at hl 0 rfl) ?_
      refine lv_iload_n hx hb dX10_since_25 rfl (lv_at hl 1 rfl) ?_
      refine lv_bipush hx hb dX10_since_26 kb_6 ?_
      obtain ⟨r108, m107, cm107, hf⟩ := b2_el (o := f_X10_ofHouse a0 x1 6 m105) hf
      refine x_callVi (As := [.int x1, .int 6]) (rest := []) C hl.1 hw cb_X10_197 cv_X10_ofHouse (k_X10_ofHouse hw.2.2.2.2 ta0 cm107) ta0 rfl rfl (by decide) ⟨Nat.le_refl _, Nat.le_refl _⟩ rfl (Nat.le_of_ble_eq_true rfl) dX10_since_28 (fun H locs hw tr108 => ?_)
      refine lv_iload_n hx hb dX10_since_31 rfl (lv_at hl 2 rfl) ?_
      refine lv_icmp_le (tgt := 47) hx hb dX10_since_32 (by decide) (fun c => ?_) (fun c => ?_)
      · have hf := ifp hf c
        refine lv_aload_n hx hb dX10_since_47 rfl (lv_at hl 0 rfl) ?_
        refine lv_ldc hx hb C.2.2.2.1 (C.2.2.2.2.1 _ ki_X10_207) dX10_since_48 ?_
        obtain ⟨r110, m109, cm109, hf⟩ := b2_el (o := f_X10_finds a0 (-1000000004) m107) hf
        refine x_callVi (As := [.int (-1000000004)]) (rest := []) C hl.1 hw cb_X10_67 cv_X10_finds (k_X10_finds hw.2.2.2.2 ta0 cm109) ta0 rfl rfl (by decide) ⟨Nat.le_refl _, Nat.le_refl _⟩ rfl (Nat.le_of_ble_eq_true rfl) dX10_since_50 (fun H locs hw tr110 => ?_)
        exact x_retI C hr hk hw  hf (by decide) (by decide) dX10_since_53
      · have hf := ifn hf c
        refine lv_aload_n hx hb dX10_since_35 rfl (lv_at hl 0 rfl) ?_
        refine lv_iload_n hx hb dX10_since_36 rfl (lv_at hl 1 rfl) ?_
        refine lv_bipush hx hb dX10_since_37 kb_7 ?_
        refine lv_iload_n hx hb dX10_since_39 rfl (lv_at hl 2 rfl) ?_
        refine lv_iadd hx hb dX10_since_40 ?_
        obtain ⟨r112, m111, cm111, hf⟩ := b2_el (o := f_X10_ofHouse a0 x1 (7 + x2) m107) hf
        refine x_callVi (As := [.int x1, .int (7 + x2)]) (rest := []) C hl.1 hw cb_X10_197 cv_X10_ofHouse (k_X10_ofHouse hw.2.2.2.2 ta0 cm111) ta0 rfl rfl (by decide) ⟨Nat.le_refl _, Nat.le_refl _⟩ rfl (Nat.le_of_ble_eq_true rfl) dX10_since_41 (fun H locs hw tr112 => ?_)
        refine lv_goto (tgt := 53) hx hb dX10_since_44 (by decide) ?_
        exact x_retI C hr hk hw  hf (by decide) (by decide) dX10_since_53
    · have hf := ifp hf c
      refine lv_aload_n hx hb dX10_since_17 rfl (lv_at hl 0 rfl) ?_
      refine lv_ldc hx hb C.2.2.2.1 (C.2.2.2.2.1 _ ki_X10_61) dX10_since_18 ?_
      obtain ⟨r114, m113, cm113, hf⟩ := b2_el (o := f_X10_finds a0 (-1000000001) m105) hf
      refine x_callVi (As := [.int (-1000000001)]) (rest := []) C hl.1 hw cb_X10_67 cv_X10_finds (k_X10_finds hw.2.2.2.2 ta0 cm113) ta0 rfl rfl (by decide) ⟨Nat.le_refl _, Nat.le_refl _⟩ rfl (Nat.le_of_ble_eq_true rfl) dX10_since_20 (fun H locs hw tr114 => ?_)
      exact x_retI C hr hk hw  hf (by decide) (by decide) dX10_since_23
