set_option maxHeartbeats 4000000 in
set_option maxRecDepth 100000 in
theorem k_X9_count {l : Launch} {D : va_G} {E : Nat → ClassId} {tU : Nat} {τ : Nat → Option XTy} {a0 : Nat} {x1 : Int32} {m0 mE : XMem} {rE : Int32} (hm : mT m0 = τ) (ta0 : τ a0 = some (.inl 9)) (hf : f_X9_count a0 x1 m0 = some (rE, mE)) : Ct l yX9_count cX9_count 2 ((Option.some FieldType.int)) 3 0 0 D E tU [.ref a0, .int x1] m0 (some (.int rE)) mE (mT mE = mT m0 ∧ True) := by
  subst hm
  refine Ct.of (by decide) (Nat.le_of_ble_eq_true rfl) (fun p e s m below meth c ls C hr hk hnm hl hw => ?_)
  have hx := C.1
  have hb := C.2.1
  have hl : lv_has ls 2 [(0, .ref a0), (1, .int x1)] := hl
  unfold f_X9_count at hf
  refine lv_iload_n hx hb dX9_count_0 rfl (lv_at hl 1 rfl) ?_
  by_cases c101 : x1 = 0
  · have hf := ifp hf c101
    refine lv_tableIn (off := 43) (tgt := 44) hx hb dX9_count_1 (by rw [c101]; decide) (by rw [c101]; decide) (by rw [c101]; try rfl) (by decide) ?_
    refine lv_aload_n hx hb dX9_count_44 rfl (lv_at hl 0 rfl) ?_
    obtain ⟨b102, eb102, hf⟩ := fo_el hf
    refine x_getR C hw fa_X9_10 (Or.inl ⟨_, rfl⟩) ta0 eb102 dX9_count_45 (fun tb102 => ?_)
    have tb102 : (mT m0) b102 = some (.inl 8) := tb102
    refine x_getI C hw fa_X9_106 tb102 dX9_count_48 ?_
    exact x_retI C hr hk hw  hf (by decide) (by decide) dX9_count_51
  · have hf := ifn hf c101
    by_cases c103 : x1 = 1
    · have hf := ifp hf c103
      refine lv_tableIn (off := 51) (tgt := 52) hx hb dX9_count_1 (by rw [c103]; decide) (by rw [c103]; decide) (by rw [c103]; try rfl) (by decide) ?_
      refine lv_aload_n hx hb dX9_count_52 rfl (lv_at hl 0 rfl) ?_
      obtain ⟨b104, eb104, hf⟩ := fo_el hf
      refine x_getR C hw fa_X9_10 (Or.inl ⟨_, rfl⟩) ta0 eb104 dX9_count_53 (fun tb104 => ?_)
      have tb104 : (mT m0) b104 = some (.inl 8) := tb104
      refine x_getI C hw fa_X9_93 tb104 dX9_count_56 ?_
      exact x_retI C hr hk hw  hf (by decide) (by decide) dX9_count_59
    · have hf := ifn hf c103
      by_cases c105 : x1 = 2
      · have hf := ifp hf c105
        refine lv_tableIn (off := 59) (tgt := 60) hx hb dX9_count_1 (by rw [c105]; decide) (by rw [c105]; decide) (by rw [c105]; try rfl) (by decide) ?_
        refine lv_aload_n hx hb dX9_count_60 rfl (lv_at hl 0 rfl) ?_
        obtain ⟨b106, eb106, hf⟩ := fo_el hf
        refine x_getR C hw fa_X9_10 (Or.inl ⟨_, rfl⟩) ta0 eb106 dX9_count_61 (fun tb106 => ?_)
        have tb106 : (mT m0) b106 = some (.inl 8) := tb106
        refine x_getI C hw fa_X9_163 tb106 dX9_count_64 ?_
        exact x_retI C hr hk hw  hf (by decide) (by decide) dX9_count_67
      · have hf := ifn hf c105
        by_cases c107 : x1 = 3
        · have hf := ifp hf c107
          refine lv_tableIn (off := 67) (tgt := 68) hx hb dX9_count_1 (by rw [c107]; decide) (by rw [c107]; decide) (by rw [c107]; try rfl) (by decide) ?_
          refine lv_aload_n hx hb dX9_count_68 rfl (lv_at hl 0 rfl) ?_
          obtain ⟨b108, eb108, hf⟩ := fo_el hf
          refine x_getR C hw fa_X9_10 (Or.inl ⟨_, rfl⟩) ta0 eb108 dX9_count_69 (fun tb108 => ?_)
          have tb108 : (mT m0) b108 = some (.inl 8) := tb108
          refine x_getI C hw fa_X9_233 tb108 dX9_count_72 ?_
          exact x_retI C hr hk hw  hf (by decide) (by decide) dX9_count_75
        · have hf := ifn hf c107
          by_cases c109 : x1 = 4
          · have hf := ifp hf c109
            refine lv_tableIn (off := 75) (tgt := 76) hx hb dX9_count_1 (by rw [c109]; decide) (by rw [c109]; decide) (by rw [c109]; try rfl) (by decide) ?_
            refine lv_aload_n hx hb dX9_count_76 rfl (lv_at hl 0 rfl) ?_
            obtain ⟨b110, eb110, hf⟩ := fo_el hf
            refine x_getR C hw fa_X9_10 (Or.inl ⟨_, rfl⟩) ta0 eb110 dX9_count_77 (fun tb110 => ?_)
            have tb110 : (mT m0) b110 = some (.inl 8) := tb110
            refine x_getI C hw fa_X9_194 tb110 dX9_count_80 ?_
            exact x_retI C hr hk hw  hf (by decide) (by decide) dX9_count_83
          · have hf := ifn hf c109
            by_cases c111 : x1 = 5
            · have hf := ifp hf c111
              refine lv_tableIn (off := 83) (tgt := 84) hx hb dX9_count_1 (by rw [c111]; decide) (by rw [c111]; decide) (by rw [c111]; try rfl) (by decide) ?_
              refine lv_aload_n hx hb dX9_count_84 rfl (lv_at hl 0 rfl) ?_
              obtain ⟨b112, eb112, hf⟩ := fo_el hf
              refine x_getR C hw fa_X9_26 (Or.inl ⟨_, rfl⟩) ta0 eb112 dX9_count_85 (fun tb112 => ?_)
              have tb112 : (mT m0) b112 = some (.inl 5) := tb112
              refine x_getI C hw fa_X9_156 tb112 dX9_count_88 ?_
              exact x_retI C hr hk hw  hf (by decide) (by decide) dX9_count_91
            · have hf := ifn hf c111
              by_cases c113 : x1 = 6
              · have hf := ifp hf c113
                refine lv_tableIn (off := 91) (tgt := 92) hx hb dX9_count_1 (by rw [c113]; decide) (by rw [c113]; decide) (by rw [c113]; try rfl) (by decide) ?_
                refine lv_aload_n hx hb dX9_count_92 rfl (lv_at hl 0 rfl) ?_
                obtain ⟨b114, eb114, hf⟩ := fo_el hf
                refine x_getR C hw fa_X9_10 (Or.inl ⟨_, rfl⟩) ta0 eb114 dX9_count_93 (fun tb114 => ?_)
                have tb114 : (mT m0) b114 = some (.inl 8) := tb114
                obtain ⟨r116, m115, cm115, hf⟩ := b2_el (o := f_X8_allHeat b114 m0) hf
                refine x_callVi (As := []) (rest := []) C hl.1 hw cb_X9_348 cv_X8_allHeat (k_X8_allHeat hw.2.2.2.2 tb114 cm115) tb114 rfl rfl (by decide) ⟨Nat.le_refl _, Nat.le_refl _⟩ rfl (Nat.le_of_ble_eq_true rfl) dX9_count_96 (fun H locs hw tr116 => ?_)
                exact x_retI C hr hk hw  hf (by decide) (by decide) dX9_count_99
              · have hf := ifn hf c113
                refine lv_tableOut (tgt := 100) hx hb dX9_count_1 (by
                    have hc101 := sw_ne (a := 0) c101 (by decide)
                    have hc103 := sw_ne (a := 1) c103 (by decide)
                    have hc105 := sw_ne (a := 2) c105 (by decide)
                    have hc107 := sw_ne (a := 3) c107 (by decide)
                    have hc109 := sw_ne (a := 4) c109 (by decide)
                    have hc111 := sw_ne (a := 5) c111 (by decide)
                    have hc113 := sw_ne (a := 6) c113 (by decide)
                    omega) (by decide) ?_
                refine lv_aload_n hx hb dX9_count_100 rfl (lv_at hl 0 rfl) ?_
                refine lv_iconst hx hb dX9_count_101 ki_0 ?_
                obtain ⟨r118, m117, cm117, hf⟩ := b2_el (o := f_X9_finding a0 0 m0) hf
                refine x_callVi (As := [.int 0]) (rest := []) C hl.1 hw cb_X9_63 cv_X9_finding (k_X9_finding hw.2.2.2.2 ta0 cm117) ta0 rfl rfl (by decide) ⟨Nat.le_refl _, Nat.le_refl _⟩ rfl (Nat.le_of_ble_eq_true rfl) dX9_count_102 (fun H locs hw tr118 => ?_)
                exact x_retI C hr hk hw  hf (by decide) (by decide) dX9_count_105
set_option maxHeartbeats 4000000 in
set_option maxRecDepth 100000 in
theorem k_X9_ever {l : Launch} {D : va_G} {E : Nat → ClassId} {tU : Nat} {τ : Nat → Option XTy} {a0 : Nat} {x1 : Int32} {x2 : Int32} {m0 mE : XMem} {rE : Int32} (hm : mT m0 = τ) (ta0 : τ a0 = some (.inl 9)) (hf : f_X9_ever a0 x1 x2 m0 = some (rE, mE)) : Ct l yX9_ever cX9_ever 4 ((Option.some FieldType.int)) 2 0 0 D E tU [.ref a0, .int x1, .int x2] m0 (some (.int rE)) mE (mT mE = mT m0 ∧ True) := by
  subst hm
  refine Ct.of (by decide) (Nat.le_of_ble_eq_true rfl) (fun p e s m below meth c ls C hr hk hnm hl hw => ?_)
  have hx := C.1
  have hb := C.2.1
  have hl : lv_has ls 4 [(0, .ref a0), (1, .int x1), (2, .int x2)] := hl
  unfold f_X9_ever at hf
  refine lv_aload_n hx hb dX9_ever_0 rfl (lv_at hl 0 rfl) ?_
  obtain ⟨b101, eb101, hf⟩ := fo_el hf
  refine x_getR C hw fa_X9_10 (Or.inl ⟨_, rfl⟩) ta0 eb101 dX9_ever_1 (fun tb101 => ?_)
  have tb101 : (mT m0) b101 = some (.inl 8) := tb101
  refine lv_iload_n hx hb dX9_ever_4 rfl (lv_at hl 1 rfl) ?_
  obtain ⟨o103, m102, cm102, hf⟩ := b2_el (o := f_X8_cellAt b101 x1 m0) hf
  have hmp := hw.2.2.2.2
  refine x_callVq (As := [.int x1]) (rest := []) C hl.1 hw cb_X9_96 cv_X8_cellAt (k_X8_cellAt hw.2.2.2.2 tb101 cm102) tb101 rfl rfl (by decide) ⟨Nat.le_refl _, Nat.le_refl _⟩ rfl (Nat.le_of_ble_eq_true rfl) dX9_ever_5 (fun H locs hw to103 => ?_)
  have to103 : ∀ b, o103 = some b → (mT m0) b = some (.inl 0) := fun b h => by have q := to103 b h; rw [hmp] at q; exact q
  refine x_astore_nQ (lv' := [(3, va_rf o103), (0, .ref a0), (1, .int x1), (2, .int x2)]) hx hb dX9_ever_8 rfl hl (by decide) rfl (fun ls hl => ?_)
  refine x_aload_nQ hx hb dX9_ever_9 rfl (lv_at hl 0 rfl) ?_
  cases o103 with
  | none =>
    have hf := oc_n hf
    refine lv_ifnonnullN hx hb dX9_ever_10 ?_
    refine lv_aload_n hx hb dX9_ever_13 rfl (lv_at hl 1 rfl) ?_
    refine lv_iconst hx hb dX9_ever_14 ki_0 ?_
    obtain ⟨r106, m105, cm105, hf⟩ := b2_el (o := f_X9_finding a0 0 m102) hf
    refine x_callVi (As := [.int 0]) (rest := []) C hl.1 hw cb_X9_63 cv_X9_finding (k_X9_finding hw.2.2.2.2 ta0 cm105) ta0 rfl rfl (by decide) ⟨Nat.le_refl _, Nat.le_refl _⟩ rfl (Nat.le_of_ble_eq_true rfl) dX9_ever_15 (fun H locs hw tr106 => ?_)
    exact x_retI C hr hk hw  hf (by decide) (by decide) dX9_ever_18
  | some b104 =>
    have hf := oc_s hf
    have tb104 := to103 b104 rfl
    refine lv_ifnonnull (tgt := 19) hx hb dX9_ever_10 (by decide) ?_
    refine lv_iload_n hx hb dX9_ever_19 rfl (lv_at hl 3 rfl) ?_
    by_cases c107 : x2 = 0
    · have hf := ifp hf c107
      refine lv_tableIn (off := 32) (tgt := 52) hx hb dX9_ever_20 (by rw [c107]; decide) (by rw [c107]; decide) (by rw [c107]; try rfl) (by decide) ?_
      refine lv_aload_n hx hb dX9_ever_52 rfl (lv_at hl 0 rfl) ?_
      refine x_getI C hw fa_X9_140 tb104 dX9_ever_53 ?_
      exact x_retI C hr hk hw  hf (by decide) (by decide) dX9_ever_56
    · have hf := ifn hf c107
      by_cases c108 : x2 = 1
      · have hf := ifp hf c108
        refine lv_tableIn (off := 37) (tgt := 57) hx hb dX9_ever_20 (by rw [c108]; decide) (by rw [c108]; decide) (by rw [c108]; try rfl) (by decide) ?_
        refine lv_aload_n hx hb dX9_ever_57 rfl (lv_at hl 0 rfl) ?_
        refine x_getI C hw fa_X9_143 tb104 dX9_ever_58 ?_
        exact x_retI C hr hk hw  hf (by decide) (by decide) dX9_ever_61
      · have hf := ifn hf c108
        by_cases c109 : x2 = 2
        · have hf := ifp hf c109
          refine lv_tableIn (off := 42) (tgt := 62) hx hb dX9_ever_20 (by rw [c109]; decide) (by rw [c109]; decide) (by rw [c109]; try rfl) (by decide) ?_
          refine lv_aload_n hx hb dX9_ever_62 rfl (lv_at hl 0 rfl) ?_
          refine x_getI C hw fa_X9_146 tb104 dX9_ever_63 ?_
          exact x_retI C hr hk hw  hf (by decide) (by decide) dX9_ever_66
        · have hf := ifn hf c109
          by_cases c110 : x2 = 3
          · have hf := ifp hf c110
            refine lv_tableIn (off := 47) (tgt := 67) hx hb dX9_ever_20 (by rw [c110]; decide) (by rw [c110]; decide) (by rw [c110]; try rfl) (by decide) ?_
            refine lv_aload_n hx hb dX9_ever_67 rfl (lv_at hl 0 rfl) ?_
            refine x_getI C hw fa_X9_149 tb104 dX9_ever_68 ?_
            exact x_retI C hr hk hw  hf (by decide) (by decide) dX9_ever_71
          · have hf := ifn hf c110
            refine lv_tableOut (tgt := 72) hx hb dX9_ever_20 (by
                have hc107 := sw_ne (a := 0) c107 (by decide)
                have hc108 := sw_ne (a := 1) c108 (by decide)
                have hc109 := sw_ne (a := 2) c109 (by decide)
                have hc110 := sw_ne (a := 3) c110 (by decide)
                omega) (by decide) ?_
            refine lv_aload_n hx hb dX9_ever_72 rfl (lv_at hl 1 rfl) ?_
            refine lv_iconst hx hb dX9_ever_73 ki_0 ?_
            obtain ⟨r112, m111, cm111, hf⟩ := b2_el (o := f_X9_finding a0 0 m102) hf
            refine x_callVi (As := [.int 0]) (rest := []) C hl.1 hw cb_X9_63 cv_X9_finding (k_X9_finding hw.2.2.2.2 ta0 cm111) ta0 rfl rfl (by decide) ⟨Nat.le_refl _, Nat.le_refl _⟩ rfl (Nat.le_of_ble_eq_true rfl) dX9_ever_74 (fun H locs hw tr112 => ?_)
            exact x_retI C hr hk hw  hf (by decide) (by decide) dX9_ever_77
set_option maxHeartbeats 4000000 in
set_option maxRecDepth 100000 in
theorem w_X9_feed_h39 {p : Program} {l : Launch} {e : Env} {s : State} {m : MethodId} {args : Array Value} {below : List Frame} {meth : Method} {c : Code} {D : va_G} {E : Nat → ClassId} {tU : Nat} {m0 mE : XMem} {rE : Int32} (C : Cx p s m args c cX9_feed 4 RX9 D E (Am m0) tU) (hr : meth.sig.returnType = ((Option.some FieldType.int))) (hk : meth.locks = false) (hnm : meth.name = yX9_feed.name) {a0 : Nat} {x1 : Int32} (ta0 : mT m0 a0 = some (.inl 9)) {k62 :  XMem → Option (Int32 × XMem)} (hk62 : ∀  (mu : XMem) (H : Heap) (locs : List Loc) (ls : Array Slot), lv_has ls 4 [(0, .ref a0)] → Wd D E (Am m0) s (mT m0) mu H locs →   k62  mu = some (rE, mE) → W p l e (rmN 2 0 0) s m args below meth c H locs 0 0 (MQ below (XQ D E (Am m0) (some (.int rE)) mE (mT mE = mT m0 ∧ True)) args s 0 0 (Am m0)) (F0 m 62 ls [])) : ∀ (n : Nat) (x3 : Int32) (mu : XMem) (H : Heap) (locs : List Loc) (ls : Array Slot), lv_has ls 4 [(0, .ref a0), (1, .int x1), (3, .int x3)] → Wd D E (Am m0) s (mT m0) mu H locs → f_X9_feed_h39 a0 x1 k62 n x3 mu = some (rE, mE) → W p l e (rmN 2 0 0) s m args below meth c H locs 0 0 (MQ below (XQ D E (Am m0) (some (.int rE)) mE (mT mE = mT m0 ∧ True)) args s 0 0 (Am m0)) (F0 m 39 ls []) := by
  have hx := C.1
  have hb := C.2.1
  intro n
  induction n with
  | zero =>
    intros
    rename_i hf
    cases hf
  | succ n ih =>
    intro x3 mu H locs ls hl hw hf
    rw [f_X9_feed_h39] at hf
    refine lv_iload_n hx hb dX9_feed_39 rfl (lv_at hl 2 rfl) ?_
    refine lv_if_lt (tgt := 62) hx hb dX9_feed_40 (by decide) (fun c => ?_) (fun c => ?_)
    · have hf := ifp hf c
      exact hk62 _ _ _ _ (lv_sub hl [0] rfl) hw hf
    · have hf := ifn hf c
      refine lv_aload_n hx hb dX9_feed_43 rfl (lv_at hl 0 rfl) ?_
      obtain ⟨b111, eb111, hf⟩ := fo_el hf
      refine x_getR C hw fa_X9_26 (Or.inl ⟨_, rfl⟩) ta0 eb111 dX9_feed_44 (fun tb111 => ?_)
      have tb111 : (mT m0) b111 = some (.inl 5) := tb111
      refine lv_iload_n hx hb dX9_feed_47 rfl (lv_at hl 1 rfl) ?_
      refine lv_bipush hx hb dX9_feed_48 kb_8 ?_
      refine lv_iload_n hx hb dX9_feed_50 rfl (lv_at hl 2 rfl) ?_
      refine lv_imul hx hb dX9_feed_51 ?_
      refine lv_iushr (v := (x1.toUInt32 >>> (Int32.toUInt32 (8 * x3) &&& Int32.toUInt32 31)).toInt32) hx hb dX9_feed_52 rfl ?_
      obtain ⟨m112, cm112, hf⟩ := b1_el (o := f_X5_add b111 ((x1.toUInt32 >>> (Int32.toUInt32 (8 * x3) &&& Int32.toUInt32 31)).toInt32) mu) hf
      refine x_callVv (As := [.int ((x1.toUInt32 >>> (Int32.toUInt32 (8 * x3) &&& Int32.toUInt32 31)).toInt32)]) (rest := []) C hl.1 hw cb_X9_159 cv_X5_add (k_X5_add hw.2.2.2.2 tb111 cm112) tb111 rfl rfl (by decide) ⟨Nat.le_refl _, Nat.le_refl _⟩ rfl (Nat.le_of_ble_eq_true rfl) dX9_feed_53 (fun H locs hw tm112 => ?_)
      obtain ⟨x113, ex113⟩ : ∃ z : Int32, z = x3 + (-1) := ⟨_, rfl⟩
      have hf := nm_el hf ex113
      refine lv_iinc (v := x113) (lv' := [(3, .int x113), (0, .ref a0), (1, .int x1)]) hx hb dX9_feed_56 hl (k := 2) rfl (by rw [ex113, ki_m1]) (by decide) rfl (fun ls hl => ?_)
      refine lv_goto (tgt := 39) hx hb dX9_feed_59 (by decide) ?_
      exact ih _ _ _ _ _ (lv_sub hl [1, 2, 0] rfl) hw hf
set_option maxHeartbeats 4000000 in
set_option maxRecDepth 100000 in
theorem k_X9_feed {l : Launch} {D : va_G} {E : Nat → ClassId} {tU : Nat} {τ : Nat → Option XTy} {a0 : Nat} {x1 : Int32} {x2 : Int32} {m0 mE : XMem} {rE : Int32} (hm : mT m0 = τ) (ta0 : τ a0 = some (.inl 9)) (hf : f_X9_feed a0 x1 x2 m0 = some (rE, mE)) : Ct l yX9_feed cX9_feed 4 ((Option.some FieldType.int)) 2 0 0 D E tU [.ref a0, .int x1, .int x2] m0 (some (.int rE)) mE (mT mE = mT m0 ∧ True) := by
  subst hm
  refine Ct.of (by decide) (Nat.le_of_ble_eq_true rfl) (fun p e s m below meth c ls C hr hk hnm hl hw => ?_)
  have hx := C.1
  have hb := C.2.1
  have hl : lv_has ls 4 [(0, .ref a0), (1, .int x1), (2, .int x2)] := hl
  unfold f_X9_feed at hf
  refine lv_iload_n hx hb dX9_feed_0 rfl (lv_at hl 2 rfl) ?_
  refine lv_iconst hx hb dX9_feed_1 ki_1 ?_
  refine lv_iconst hx hb dX9_feed_2 ki_4 ?_
  obtain ⟨r102, m101, cm101, hf⟩ := b2_el (o := f_X9_within x2 1 4 m0) hf
  refine x_callSi (As := [.int x2, .int 1, .int 4]) (rest := []) C hl.1 hw cb_X9_59 cs_X9_within (k_X9_within hw.2.2.2.2  cm101) rfl (by decide) ⟨Nat.le_refl _, Nat.le_refl _⟩ rfl (Nat.le_of_ble_eq_true rfl) dX9_feed_3 (fun H locs hw tr102 => ?_)
  refine lv_if_ne (tgt := 15) hx hb dX9_feed_6 (by decide) (fun c => ?_) (fun c => ?_)
  · have hf := ifn hf c
    refine lv_aload_n hx hb dX9_feed_15 rfl (lv_at hl 0 rfl) ?_
    obtain ⟨b103, eb103, hf⟩ := fo_el hf
    refine x_getR C hw fa_X9_26 (Or.inl ⟨_, rfl⟩) ta0 eb103 dX9_feed_16 (fun tb103 => ?_)
    have tb103 : (mT m0) b103 = some (.inl 5) := tb103
    refine x_getI C hw fa_X9_156 tb103 dX9_feed_19 ?_
    refine lv_iload_n hx hb dX9_feed_22 rfl (lv_at hl 2 rfl) ?_
    refine lv_iadd hx hb dX9_feed_23 ?_
    refine lv_bipush hx hb dX9_feed_24 kb_100 ?_
    refine lv_icmp_le (tgt := 35) hx hb dX9_feed_26 (by decide) (fun c => ?_) (fun c => ?_)
    · have hf := ifp hf c
      refine lv_iload_n hx hb dX9_feed_35 rfl (lv_at hl 2 rfl) ?_
      refine lv_iconst hx hb dX9_feed_36 ki_1 ?_
      refine lv_isub hx hb dX9_feed_37 ?_
      refine lv_topi (fun x104 ex104 => ?_)
      have hf := nm_el hf ex104
      refine lv_istore_n (lv' := [(3, .int x104), (0, .ref a0), (1, .int x1), (2, .int x2)]) hx hb dX9_feed_38 rfl hl (by decide) rfl (fun ls hl => ?_)
      refine w_X9_feed_h39 C hr hk hnm ta0 ?_ 2000 _ _ _ _ _ (lv_sub hl [1, 2, 0] rfl) hw hf
      intro m105 H locs ls hl hw hf
      refine lv_aload_n hx hb dX9_feed_62 rfl (lv_at hl 0 rfl) ?_
      obtain ⟨b106, eb106, hf⟩ := fo_el hf
      refine x_getR C hw fa_X9_26 (Or.inl ⟨_, rfl⟩) ta0 eb106 dX9_feed_63 (fun tb106 => ?_)
      have tb106 : (mT m0) b106 = some (.inl 5) := tb106
      refine x_getI C hw fa_X9_156 tb106 dX9_feed_66 ?_
      exact x_retI C hr hk hw  hf (by decide) (by decide) dX9_feed_69
    · have hf := ifn hf c
      refine lv_aload_n hx hb dX9_feed_29 rfl (lv_at hl 0 rfl) ?_
      refine lv_iconst hx hb dX9_feed_30 ki_1 ?_
      obtain ⟨r108, m107, cm107, hf⟩ := b2_el (o := f_X9_finding a0 1 m101) hf
      refine x_callVi (As := [.int 1]) (rest := []) C hl.1 hw cb_X9_63 cv_X9_finding (k_X9_finding hw.2.2.2.2 ta0 cm107) ta0 rfl rfl (by decide) ⟨Nat.le_refl _, Nat.le_refl _⟩ rfl (Nat.le_of_ble_eq_true rfl) dX9_feed_31 (fun H locs hw tr108 => ?_)
      exact x_retI C hr hk hw  hf (by decide) (by decide) dX9_feed_34
  · have hf := ifp hf c
    refine lv_aload_n hx hb dX9_feed_9 rfl (lv_at hl 0 rfl) ?_
    refine lv_iconst hx hb dX9_feed_10 ki_0 ?_
    obtain ⟨r110, m109, cm109, hf⟩ := b2_el (o := f_X9_finding a0 0 m101) hf
    refine x_callVi (As := [.int 0]) (rest := []) C hl.1 hw cb_X9_63 cv_X9_finding (k_X9_finding hw.2.2.2.2 ta0 cm109) ta0 rfl rfl (by decide) ⟨Nat.le_refl _, Nat.le_refl _⟩ rfl (Nat.le_of_ble_eq_true rfl) dX9_feed_11 (fun H locs hw tr110 => ?_)
    exact x_retI C hr hk hw  hf (by decide) (by decide) dX9_feed_14
set_option maxHeartbeats 4000000 in
set_option maxRecDepth 100000 in
theorem k_X9_isLawOrNone {l : Launch} {D : va_G} {E : Nat → ClassId} {tU : Nat} {τ : Nat → Option XTy} {a0 : Nat} {x1 : Int32} {m0 mE : XMem} {rE : Int32} (hm : mT m0 = τ) (ta0 : τ a0 = some (.inl 9)) (hf : f_X9_isLawOrNone a0 x1 m0 = some (rE, mE)) : Ct l yX9_isLawOrNone cX9_isLawOrNone 2 ((Option.some FieldType.boolean)) 2 0 0 D E tU [.ref a0, .int x1] m0 (some (.int rE)) mE (mT mE = mT m0 ∧ (rE = 0 ∨ rE = 1)) := by
  subst hm
  refine Ct.of (by decide) (Nat.le_of_ble_eq_true rfl) (fun p e s m below meth c ls C hr hk hnm hl hw => ?_)
  have hx := C.1
  have hb := C.2.1
  have hl : lv_has ls 2 [(0, .ref a0), (1, .int x1)] := hl
  unfold f_X9_isLawOrNone at hf
  refine lv_iload_n hx hb dX9_isLawOrNone_0 rfl (lv_at hl 1 rfl) ?_
  refine lv_iconst hx hb dX9_isLawOrNone_1 ki_m1 ?_
  refine lv_icmp_eq (tgt := 16) hx hb dX9_isLawOrNone_2 (by decide) (fun c => ?_) (fun c => ?_)
  · have hf := ifp hf c
    refine lv_iconst hx hb dX9_isLawOrNone_16 ki_1 ?_
    refine lv_goto (tgt := 21) hx hb dX9_isLawOrNone_17 (by decide) ?_
    exact x_retZ C hr hk (Or.inr rfl) hw  hf (by decide) (by decide) dX9_isLawOrNone_21
  · have hf := ifn hf c
    refine lv_aload_n hx hb dX9_isLawOrNone_5 rfl (lv_at hl 0 rfl) ?_
    obtain ⟨b101, eb101, hf⟩ := fo_el hf
    refine x_getR C hw fa_X9_10 (Or.inl ⟨_, rfl⟩) ta0 eb101 dX9_isLawOrNone_6 (fun tb101 => ?_)
    have tb101 : (mT m0) b101 = some (.inl 8) := tb101
    refine lv_iload_n hx hb dX9_isLawOrNone_9 rfl (lv_at hl 1 rfl) ?_
    obtain ⟨o103, m102, cm102, hf⟩ := b2_el (o := f_X8_lawAt b101 x1 m0) hf
    have hmp := hw.2.2.2.2
    refine x_callVq (As := [.int x1]) (rest := []) C hl.1 hw cb_X9_197 cv_X8_lawAt (k_X8_lawAt hw.2.2.2.2 tb101 cm102) tb101 rfl rfl (by decide) ⟨Nat.le_refl _, Nat.le_refl _⟩ rfl (Nat.le_of_ble_eq_true rfl) dX9_isLawOrNone_10 (fun H locs hw to103 => ?_)
    have to103 : ∀ b, o103 = some b → (mT m0) b = some (.inl 2) := fun b h => by have q := to103 b h; rw [hmp] at q; exact q
    cases o103 with
    | none =>
      have hf := oc_n hf
      refine lv_ifnullN (tgt := 20) hx hb dX9_isLawOrNone_13 (by decide) ?_
      refine lv_iconst hx hb dX9_isLawOrNone_20 ki_0 ?_
      exact x_retZ C hr hk (Or.inl rfl) hw  hf (by decide) (by decide) dX9_isLawOrNone_21
    | some b104 =>
      have hf := oc_s hf
      have tb104 := to103 b104 rfl
      refine lv_ifnull hx hb dX9_isLawOrNone_13 ?_
      refine lv_iconst hx hb dX9_isLawOrNone_16 ki_1 ?_
      refine lv_goto (tgt := 21) hx hb dX9_isLawOrNone_17 (by decide) ?_
      exact x_retZ C hr hk (Or.inr rfl) hw  hf (by decide) (by decide) dX9_isLawOrNone_21
set_option maxHeartbeats 4000000 in
set_option maxRecDepth 100000 in
theorem k_X9_force {l : Launch} {D : va_G} {E : Nat → ClassId} {tU : Nat} {τ : Nat → Option XTy} {a0 : Nat} {x1 : Int32} {m0 mE : XMem} {rE : Int32} (hm : mT m0 = τ) (ta0 : τ a0 = some (.inl 9)) (hf : f_X9_force a0 x1 m0 = some (rE, mE)) : Ct l yX9_force cX9_force 3 ((Option.some FieldType.int)) 3 0 0 D E tU [.ref a0, .int x1] m0 (some (.int rE)) mE (mT mE = mT m0 ∧ True) := by
  subst hm
  refine Ct.of (by decide) (Nat.le_of_ble_eq_true rfl) (fun p e s m below meth c ls C hr hk hnm hl hw => ?_)
  have hx := C.1
  have hb := C.2.1
  have hl : lv_has ls 3 [(0, .ref a0), (1, .int x1)] := hl
  unfold f_X9_force at hf
  refine lv_aload_n hx hb dX9_force_0 rfl (lv_at hl 0 rfl) ?_
  refine lv_iload_n hx hb dX9_force_1 rfl (lv_at hl 1 rfl) ?_
  obtain ⟨r102, m101, cm101, hf⟩ := b2_el (o := f_X9_isLawOrNone a0 x1 m0) hf
  refine x_callVi (As := [.int x1]) (rest := []) C hl.1 hw cb_X9_190 cv_X9_isLawOrNone (k_X9_isLawOrNone hw.2.2.2.2 ta0 cm101) ta0 rfl rfl (by decide) ⟨Nat.le_refl _, Nat.le_refl _⟩ rfl (Nat.le_of_ble_eq_true rfl) dX9_force_2 (fun H locs hw tr102 => ?_)
  refine lv_if_ne (tgt := 14) hx hb dX9_force_5 (by decide) (fun c => ?_) (fun c => ?_)
  · have hf := ifn hf c
    refine lv_aload_n hx hb dX9_force_14 rfl (lv_at hl 0 rfl) ?_
    obtain ⟨b103, eb103, hf⟩ := fo_el hf
    refine x_getR C hw fa_X9_10 (Or.inl ⟨_, rfl⟩) ta0 eb103 dX9_force_15 (fun tb103 => ?_)
    have tb103 : (mT m0) b103 = some (.inl 8) := tb103
    refine x_getI C hw fa_X9_194 tb103 dX9_force_18 ?_
    refine lv_topi (fun x104 ex104 => ?_)
    have hf := nm_el hf ex104
    refine lv_istore_n (lv' := [(2, .int x104), (0, .ref a0), (1, .int x1)]) hx hb dX9_force_21 rfl hl (by decide) rfl (fun ls hl => ?_)
    refine lv_aload_n hx hb dX9_force_22 rfl (lv_at hl 1 rfl) ?_
    obtain ⟨b105, eb105, hf⟩ := fo_el hf
    refine x_getR C hw fa_X9_10 (Or.inl ⟨_, rfl⟩) ta0 eb105 dX9_force_23 (fun tb105 => ?_)
    have tb105 : (mT m0) b105 = some (.inl 8) := tb105
    refine lv_iload_n hx hb dX9_force_26 rfl (lv_at hl 2 rfl) ?_
    refine x_putI C hw fa_X9_194 tb105 dX9_force_27 (fun m106 H locs em106 hw => ?_)
    have hf := nm_el hf em106
    refine lv_iload_n hx hb dX9_force_30 rfl (lv_at hl 0 rfl) ?_
    exact x_retI C hr hk hw  hf (by decide) (by decide) dX9_force_31
  · have hf := ifp hf c
    refine lv_aload_n hx hb dX9_force_8 rfl (lv_at hl 0 rfl) ?_
    refine lv_iconst hx hb dX9_force_9 ki_0 ?_
    obtain ⟨r108, m107, cm107, hf⟩ := b2_el (o := f_X9_finding a0 0 m101) hf
    refine x_callVi (As := [.int 0]) (rest := []) C hl.1 hw cb_X9_63 cv_X9_finding (k_X9_finding hw.2.2.2.2 ta0 cm107) ta0 rfl rfl (by decide) ⟨Nat.le_refl _, Nat.le_refl _⟩ rfl (Nat.le_of_ble_eq_true rfl) dX9_force_10 (fun H locs hw tr108 => ?_)
    exact x_retI C hr hk hw  hf (by decide) (by decide) dX9_force_13
set_option maxHeartbeats 4000000 in
set_option maxRecDepth 100000 in
theorem k_X9_foretold {l : Launch} {D : va_G} {E : Nat → ClassId} {tU : Nat} {τ : Nat → Option XTy} {a0 : Nat} {x1 : Int32} {x2 : Int32} {x3 : Int32} {x4 : Int32} {m0 mE : XMem} {rE : Int32} (hm : mT m0 = τ) (ta0 : τ a0 = some (.inl 9)) (hf : f_X9_foretold a0 x1 x2 x3 x4 m0 = some (rE, mE)) : Ct l yX9_foretold cX9_foretold 6 ((Option.some FieldType.int)) 7 0 0 D E tU [.ref a0, .int x1, .int x2, .int x3, .int x4] m0 (some (.int rE)) mE (mT mE = mT m0 ∧ True) := by
  subst hm
  refine Ct.of (by decide) (Nat.le_of_ble_eq_true rfl) (fun p e s m below meth c ls C hr hk hnm hl hw => ?_)
  have hx := C.1
  have hb := C.2.1
  have hl : lv_has ls 6 [(0, .ref a0), (1, .int x1), (2, .int x2), (3, .int x3), (4, .int x4)] := hl
  unfold f_X9_foretold at hf
  refine lv_aload_n hx hb dX9_foretold_0 rfl (lv_at hl 0 rfl) ?_
  obtain ⟨b101, eb101, hf⟩ := fo_el hf
  refine x_getR C hw fa_X9_10 (Or.inl ⟨_, rfl⟩) ta0 eb101 dX9_foretold_1 (fun tb101 => ?_)
  have tb101 : (mT m0) b101 = some (.inl 8) := tb101
  refine lv_iload_n hx hb dX9_foretold_4 rfl (lv_at hl 1 rfl) ?_
  obtain ⟨o103, m102, cm102, hf⟩ := b2_el (o := f_X8_cellAt b101 x1 m0) hf
  have hmp := hw.2.2.2.2
  refine x_callVq (As := [.int x1]) (rest := []) C hl.1 hw cb_X9_96 cv_X8_cellAt (k_X8_cellAt hw.2.2.2.2 tb101 cm102) tb101 rfl rfl (by decide) ⟨Nat.le_refl _, Nat.le_refl _⟩ rfl (Nat.le_of_ble_eq_true rfl) dX9_foretold_5 (fun H locs hw to103 => ?_)
  have to103 : ∀ b, o103 = some b → (mT m0) b = some (.inl 0) := fun b h => by have q := to103 b h; rw [hmp] at q; exact q
  refine x_astoreQ (lv' := [(5, va_rf o103), (0, .ref a0), (1, .int x1), (2, .int x2), (3, .int x3), (4, .int x4)]) hx hb dX9_foretold_8 hl (by decide) rfl (fun ls hl => ?_)
  refine x_aloadQ hx hb dX9_foretold_10 (lv_at hl 0 rfl) ?_
  cases o103 with
  | none =>
    have hf := oc_n hf
    refine lv_ifnullN (tgt := 43) hx hb dX9_foretold_12 (by decide) ?_
    refine lv_aload_n hx hb dX9_foretold_43 rfl (lv_at hl 1 rfl) ?_
    refine lv_iconst hx hb dX9_foretold_44 ki_0 ?_
    obtain ⟨r106, m105, cm105, hf⟩ := b2_el (o := f_X9_finding a0 0 m102) hf
    refine x_callVi (As := [.int 0]) (rest := []) C hl.1 hw cb_X9_63 cv_X9_finding (k_X9_finding hw.2.2.2.2 ta0 cm105) ta0 rfl rfl (by decide) ⟨Nat.le_refl _, Nat.le_refl _⟩ rfl (Nat.le_of_ble_eq_true rfl) dX9_foretold_45 (fun H locs hw tr106 => ?_)
    exact x_retI C hr hk hw  hf (by decide) (by decide) dX9_foretold_48
  | some b104 =>
    have hf := oc_s hf
    have tb104 := to103 b104 rfl
    refine lv_ifnull hx hb dX9_foretold_12 ?_
    refine lv_aload_n hx hb dX9_foretold_15 rfl (lv_at hl 1 rfl) ?_
    refine lv_iload_n hx hb dX9_foretold_16 rfl (lv_at hl 3 rfl) ?_
    obtain ⟨r108, m107, cm107, hf⟩ := b2_el (o := f_X9_isLawOrNone a0 x2 m102) hf
    refine x_callVi (As := [.int x2]) (rest := []) C hl.1 hw cb_X9_190 cv_X9_isLawOrNone (k_X9_isLawOrNone hw.2.2.2.2 ta0 cm107) ta0 rfl rfl (by decide) ⟨Nat.le_refl _, Nat.le_refl _⟩ rfl (Nat.le_of_ble_eq_true rfl) dX9_foretold_17 (fun H locs hw tr108 => ?_)
    refine lv_if_eq (tgt := 43) hx hb dX9_foretold_20 (by decide) (fun c => ?_) (fun c => ?_)
    · have hf := ifp hf c
      refine lv_aload_n hx hb dX9_foretold_43 rfl (lv_at hl 1 rfl) ?_
      refine lv_iconst hx hb dX9_foretold_44 ki_0 ?_
      obtain ⟨r110, m109, cm109, hf⟩ := b2_el (o := f_X9_finding a0 0 m107) hf
      refine x_callVi (As := [.int 0]) (rest := []) C hl.1 hw cb_X9_63 cv_X9_finding (k_X9_finding hw.2.2.2.2 ta0 cm109) ta0 rfl rfl (by decide) ⟨Nat.le_refl _, Nat.le_refl _⟩ rfl (Nat.le_of_ble_eq_true rfl) dX9_foretold_45 (fun H locs hw tr110 => ?_)
      exact x_retI C hr hk hw  hf (by decide) (by decide) dX9_foretold_48
    · have hf := ifn hf c
      refine lv_iload_n hx hb dX9_foretold_23 rfl (lv_at hl 4 rfl) ?_
      refine lv_iconst hx hb dX9_foretold_24 ki_0 ?_
      refine lv_bipush hx hb dX9_foretold_25 kb_100 ?_
      obtain ⟨r112, m111, cm111, hf⟩ := b2_el (o := f_X9_within x3 0 100 m107) hf
      refine x_callSi (As := [.int x3, .int 0, .int 100]) (rest := []) C hl.1 hw cb_X9_59 cs_X9_within (k_X9_within hw.2.2.2.2  cm111) rfl (by decide) ⟨Nat.le_refl _, Nat.le_refl _⟩ rfl (Nat.le_of_ble_eq_true rfl) dX9_foretold_27 (fun H locs hw tr112 => ?_)
      refine lv_if_eq (tgt := 43) hx hb dX9_foretold_30 (by decide) (fun c => ?_) (fun c => ?_)
      · have hf := ifp hf c
        refine lv_aload_n hx hb dX9_foretold_43 rfl (lv_at hl 1 rfl) ?_
        refine lv_iconst hx hb dX9_foretold_44 ki_0 ?_
        obtain ⟨r114, m113, cm113, hf⟩ := b2_el (o := f_X9_finding a0 0 m111) hf
        refine x_callVi (As := [.int 0]) (rest := []) C hl.1 hw cb_X9_63 cv_X9_finding (k_X9_finding hw.2.2.2.2 ta0 cm113) ta0 rfl rfl (by decide) ⟨Nat.le_refl _, Nat.le_refl _⟩ rfl (Nat.le_of_ble_eq_true rfl) dX9_foretold_45 (fun H locs hw tr114 => ?_)
        exact x_retI C hr hk hw  hf (by decide) (by decide) dX9_foretold_48
      · have hf := ifn hf c
        refine lv_iload hx hb dX9_foretold_33 (lv_at hl 5 rfl) ?_
        refine lv_iconst hx hb dX9_foretold_35 ki_0 ?_
        refine lv_iconst hx hb dX9_foretold_36 ki_4 ?_
        obtain ⟨r116, m115, cm115, hf⟩ := b2_el (o := f_X9_within x4 0 4 m111) hf
        refine x_callSi (As := [.int x4, .int 0, .int 4]) (rest := []) C hl.1 hw cb_X9_59 cs_X9_within (k_X9_within hw.2.2.2.2  cm115) rfl (by decide) ⟨Nat.le_refl _, Nat.le_refl _⟩ rfl (Nat.le_of_ble_eq_true rfl) dX9_foretold_37 (fun H locs hw tr116 => ?_)
        refine lv_if_ne (tgt := 49) hx hb dX9_foretold_40 (by decide) (fun c => ?_) (fun c => ?_)
        · have hf := ifn hf c
          refine lv_aload_n hx hb dX9_foretold_49 rfl (lv_at hl 1 rfl) ?_
          obtain ⟨b117, eb117, hf⟩ := fo_el hf
          refine x_getR C hw fa_X9_50 (Or.inl ⟨_, rfl⟩) ta0 eb117 dX9_foretold_50 (fun tb117 => ?_)
          have tb117 : (mT m0) b117 = some (.inl 0) := tb117
          refine lv_aload hx hb dX9_foretold_53 (lv_at hl 0 rfl) ?_
          obtain ⟨m118, cm118, hf⟩ := b1_el (o := f_X0_take b117 b104 m115) hf
          refine x_callVv (As := [.ref b104]) (rest := []) C hl.1 hw cb_X9_289 cv_X0_take (k_X0_take hw.2.2.2.2 tb117 tb104 cm118) tb117 rfl rfl (by decide) ⟨Nat.le_refl _, Nat.le_refl _⟩ rfl (Nat.le_of_ble_eq_true rfl) dX9_foretold_55 (fun H locs hw tm118 => ?_)
          refine lv_aload_n hx hb dX9_foretold_58 rfl (lv_at hl 1 rfl) ?_
          obtain ⟨b119, eb119, hf⟩ := fo_el hf
          refine x_getR C hw fa_X9_10 (Or.inl ⟨_, rfl⟩) ta0 eb119 dX9_foretold_59 (fun tb119 => ?_)
          have tb119 : (mT m0) b119 = some (.inl 8) := tb119
          refine lv_aload_n hx hb dX9_foretold_62 rfl (lv_at hl 1 rfl) ?_
          obtain ⟨b120, eb120, hf⟩ := fo_el hf
          refine x_getR C hw fa_X9_50 (Or.inl ⟨_, rfl⟩) ta0 eb120 dX9_foretold_63 (fun tb120 => ?_)
          have tb120 : (mT m0) b120 = some (.inl 0) := tb120
          refine lv_iload_n hx hb dX9_foretold_66 rfl (lv_at hl 2 rfl) ?_
          refine lv_iload_n hx hb dX9_foretold_67 rfl (lv_at hl 3 rfl) ?_
          refine lv_iload_n hx hb dX9_foretold_68 rfl (lv_at hl 4 rfl) ?_
          obtain ⟨m121, cm121, hf⟩ := b1_el (o := f_X8_foretell b119 b120 x1 x2 x3 m118) hf
          refine x_callVv (As := [.ref b120, .int x1, .int x2, .int x3]) (rest := []) C hl.1 hw cb_X9_293 cv_X8_foretell (k_X8_foretell hw.2.2.2.2 tb119 tb120 cm121) tb119 rfl rfl (by decide) ⟨Nat.le_refl _, Nat.le_refl _⟩ rfl (Nat.le_of_ble_eq_true rfl) dX9_foretold_69 (fun H locs hw tm121 => ?_)
          refine lv_iload hx hb dX9_foretold_72 (lv_at hl 5 rfl) ?_
          by_cases c122 : x4 = 0
          · have hf := ifp hf c122
            refine lv_tableIn (off := 30) (tgt := 104) hx hb dX9_foretold_74 (by rw [c122]; decide) (by rw [c122]; decide) (by rw [c122]; try rfl) (by decide) ?_
            refine lv_aload_n hx hb dX9_foretold_104 rfl (lv_at hl 1 rfl) ?_
            obtain ⟨b123, eb123, hf⟩ := fo_el hf
            refine x_getR C hw fa_X9_50 (Or.inl ⟨_, rfl⟩) ta0 eb123 dX9_foretold_105 (fun tb123 => ?_)
            have tb123 : (mT m0) b123 = some (.inl 0) := tb123
            refine x_getI C hw fa_X9_112 tb123 dX9_foretold_108 ?_
            exact x_retI C hr hk hw  hf (by decide) (by decide) dX9_foretold_111
          · have hf := ifn hf c122
            by_cases c124 : x4 = 1
            · have hf := ifp hf c124
              refine lv_tableIn (off := 38) (tgt := 112) hx hb dX9_foretold_74 (by rw [c124]; decide) (by rw [c124]; decide) (by rw [c124]; try rfl) (by decide) ?_
              refine lv_aload_n hx hb dX9_foretold_112 rfl (lv_at hl 1 rfl) ?_
              obtain ⟨b125, eb125, hf⟩ := fo_el hf
              refine x_getR C hw fa_X9_50 (Or.inl ⟨_, rfl⟩) ta0 eb125 dX9_foretold_113 (fun tb125 => ?_)
              have tb125 : (mT m0) b125 = some (.inl 0) := tb125
              obtain ⟨r127, m126, cm126, hf⟩ := b2_el (o := f_X0_thermometer b125 m121) hf
              refine x_callVi (As := []) (rest := []) C hl.1 hw cb_X9_122 cv_X0_thermometer (k_X0_thermometer hw.2.2.2.2 tb125 cm126) tb125 rfl rfl (by decide) ⟨Nat.le_refl _, Nat.le_refl _⟩ rfl (Nat.le_of_ble_eq_true rfl) dX9_foretold_116 (fun H locs hw tr127 => ?_)
              exact x_retI C hr hk hw  hf (by decide) (by decide) dX9_foretold_119
            · have hf := ifn hf c124
              by_cases c128 : x4 = 2
              · have hf := ifp hf c128
                refine lv_tableIn (off := 46) (tgt := 120) hx hb dX9_foretold_74 (by rw [c128]; decide) (by rw [c128]; decide) (by rw [c128]; try rfl) (by decide) ?_
                refine lv_aload_n hx hb dX9_foretold_120 rfl (lv_at hl 1 rfl) ?_
                obtain ⟨b129, eb129, hf⟩ := fo_el hf
                refine x_getR C hw fa_X9_50 (Or.inl ⟨_, rfl⟩) ta0 eb129 dX9_foretold_121 (fun tb129 => ?_)
                have tb129 : (mT m0) b129 = some (.inl 0) := tb129
                refine x_getI C hw fa_X9_137 tb129 dX9_foretold_124 ?_
                exact x_retI C hr hk hw  hf (by decide) (by decide) dX9_foretold_127
              · have hf := ifn hf c128
                by_cases c130 : x4 = 3
                · have hf := ifp hf c130
                  refine lv_tableIn (off := 54) (tgt := 128) hx hb dX9_foretold_74 (by rw [c130]; decide) (by rw [c130]; decide) (by rw [c130]; try rfl) (by decide) ?_
                  refine lv_aload_n hx hb dX9_foretold_128 rfl (lv_at hl 1 rfl) ?_
                  obtain ⟨b131, eb131, hf⟩ := fo_el hf
                  refine x_getR C hw fa_X9_50 (Or.inl ⟨_, rfl⟩) ta0 eb131 dX9_foretold_129 (fun tb131 => ?_)
                  have tb131 : (mT m0) b131 = some (.inl 0) := tb131
                  refine x_getI C hw fa_X9_115 tb131 dX9_foretold_132 ?_
                  exact x_retI C hr hk hw  hf (by decide) (by decide) dX9_foretold_135
                · have hf := ifn hf c130
                  refine lv_tableOut (tgt := 136) hx hb dX9_foretold_74 (by
                      have hc122 := sw_ne (a := 0) c122 (by decide)
                      have hc124 := sw_ne (a := 1) c124 (by decide)
                      have hc128 := sw_ne (a := 2) c128 (by decide)
                      have hc130 := sw_ne (a := 3) c130 (by decide)
                      omega) (by decide) ?_
                  refine lv_aload_n hx hb dX9_foretold_136 rfl (lv_at hl 1 rfl) ?_
                  obtain ⟨b132, eb132, hf⟩ := fo_el hf
                  refine x_getR C hw fa_X9_50 (Or.inl ⟨_, rfl⟩) ta0 eb132 dX9_foretold_137 (fun tb132 => ?_)
                  have tb132 : (mT m0) b132 = some (.inl 0) := tb132
                  refine x_getI C hw fa_X9_90 tb132 dX9_foretold_140 ?_
                  exact x_retI C hr hk hw  hf (by decide) (by decide) dX9_foretold_143
        · have hf := ifp hf c
          refine lv_aload_n hx hb dX9_foretold_43 rfl (lv_at hl 1 rfl) ?_
          refine lv_iconst hx hb dX9_foretold_44 ki_0 ?_
          obtain ⟨r134, m133, cm133, hf⟩ := b2_el (o := f_X9_finding a0 0 m115) hf
          refine x_callVi (As := [.int 0]) (rest := []) C hl.1 hw cb_X9_63 cv_X9_finding (k_X9_finding hw.2.2.2.2 ta0 cm133) ta0 rfl rfl (by decide) ⟨Nat.le_refl _, Nat.le_refl _⟩ rfl (Nat.le_of_ble_eq_true rfl) dX9_foretold_45 (fun H locs hw tr134 => ?_)
          exact x_retI C hr hk hw  hf (by decide) (by decide) dX9_foretold_48
set_option maxHeartbeats 4000000 in
set_option maxRecDepth 100000 in
theorem w_X9_hours_h39 {p : Program} {l : Launch} {e : Env} {s : State} {m : MethodId} {args : Array Value} {below : List Frame} {meth : Method} {c : Code} {D : va_G} {E : Nat → ClassId} {tU : Nat} {m0 mE : XMem} {rE : Int32} (C : Cx p s m args c cX9_hours 3 RX9 D E (Am m0) tU) (hr : meth.sig.returnType = ((Option.some FieldType.int))) (hk : meth.locks = false) (hnm : meth.name = yX9_hours.name) {a0 : Nat} {x1 : Int32} (ta0 : mT m0 a0 = some (.inl 9)) {k57 :  XMem → Option (Int32 × XMem)} (hk57 : ∀  (mu : XMem) (H : Heap) (locs : List Loc) (ls : Array Slot), lv_has ls 3 [(0, .ref a0)] → Wd D E (Am m0) s (mT m0) mu H locs →   k57  mu = some (rE, mE) → W p l e (rmN 7 0 0) s m args below meth c H locs 0 0 (MQ below (XQ D E (Am m0) (some (.int rE)) mE (mT mE = mT m0 ∧ True)) args s 0 0 (Am m0)) (F0 m 57 ls [])) : ∀ (n : Nat) (x2 : Int32) (mu : XMem) (H : Heap) (locs : List Loc) (ls : Array Slot), lv_has ls 3 [(0, .ref a0), (1, .int x1), (2, .int x2)] → Wd D E (Am m0) s (mT m0) mu H locs → f_X9_hours_h39 a0 x1 k57 n x2 mu = some (rE, mE) → W p l e (rmN 7 0 0) s m args below meth c H locs 0 0 (MQ below (XQ D E (Am m0) (some (.int rE)) mE (mT mE = mT m0 ∧ True)) args s 0 0 (Am m0)) (F0 m 39 ls []) := by
  have hx := C.1
  have hb := C.2.1
  intro n
  induction n with
  | zero =>
    intros
    rename_i hf
    cases hf
  | succ n ih =>
    intro x2 mu H locs ls hl hw hf
    rw [f_X9_hours_h39] at hf
    refine lv_iload_n hx hb dX9_hours_39 rfl (lv_at hl 2 rfl) ?_
    refine lv_iload_n hx hb dX9_hours_40 rfl (lv_at hl 1 rfl) ?_
    refine lv_icmp_ge (tgt := 57) hx hb dX9_hours_41 (by decide) (fun c => ?_) (fun c => ?_)
    · have hf := ifp hf c
      exact hk57 _ _ _ _ (lv_sub hl [0] rfl) hw hf
    · have hf := ifn hf c
      refine lv_aload_n hx hb dX9_hours_44 rfl (lv_at hl 0 rfl) ?_
      obtain ⟨b110, eb110, hf⟩ := fo_el hf
      refine x_getR C hw fa_X9_10 (Or.inl ⟨_, rfl⟩) ta0 eb110 dX9_hours_45 (fun tb110 => ?_)
      have tb110 : (mT m0) b110 = some (.inl 8) := tb110
      obtain ⟨m111, cm111, hf⟩ := b1_el (o := f_X8_passHour b110 mu) hf
      refine x_callVv (As := []) (rest := []) C hl.1 hw cb_X9_109 cv_X8_passHour (k_X8_passHour hw.2.2.2.2 tb110 cm111) tb110 rfl rfl (by decide) ⟨Nat.le_refl _, Nat.le_refl _⟩ rfl (Nat.le_of_ble_eq_true rfl) dX9_hours_48 (fun H locs hw tm111 => ?_)
      obtain ⟨x112, ex112⟩ : ∃ z : Int32, z = x2 + 1 := ⟨_, rfl⟩
      have hf := nm_el hf ex112
      refine lv_iinc (v := x112) (lv' := [(2, .int x112), (0, .ref a0), (1, .int x1)]) hx hb dX9_hours_51 hl (k := 2) rfl (by rw [ex112, ki_1]) (by decide) rfl (fun ls hl => ?_)
      refine lv_goto (tgt := 39) hx hb dX9_hours_54 (by decide) ?_
      exact ih _ _ _ _ _ (lv_sub hl [1, 2, 0] rfl) hw hf
set_option maxHeartbeats 4000000 in
set_option maxRecDepth 100000 in
theorem k_X9_hours {l : Launch} {D : va_G} {E : Nat → ClassId} {tU : Nat} {τ : Nat → Option XTy} {a0 : Nat} {x1 : Int32} {m0 mE : XMem} {rE : Int32} (hm : mT m0 = τ) (ta0 : τ a0 = some (.inl 9)) (hf : f_X9_hours a0 x1 m0 = some (rE, mE)) : Ct l yX9_hours cX9_hours 3 ((Option.some FieldType.int)) 7 0 0 D E tU [.ref a0, .int x1] m0 (some (.int rE)) mE (mT mE = mT m0 ∧ True) := by
  subst hm
  refine Ct.of (by decide) (Nat.le_of_ble_eq_true rfl) (fun p e s m below meth c ls C hr hk hnm hl hw => ?_)
  have hx := C.1
  have hb := C.2.1
  have hl : lv_has ls 3 [(0, .ref a0), (1, .int x1)] := hl
  unfold f_X9_hours at hf
  refine lv_iload_n hx hb dX9_hours_0 rfl (lv_at hl 1 rfl) ?_
  refine lv_iconst hx hb dX9_hours_1 ki_1 ?_
  refine lv_bipush hx hb dX9_hours_2 kb_100 ?_
  obtain ⟨r102, m101, cm101, hf⟩ := b2_el (o := f_X9_within x1 1 100 m0) hf
  refine x_callSi (As := [.int x1, .int 1, .int 100]) (rest := []) C hl.1 hw cb_X9_59 cs_X9_within (k_X9_within hw.2.2.2.2  cm101) rfl (by decide) ⟨Nat.le_refl _, Nat.le_refl _⟩ rfl (Nat.le_of_ble_eq_true rfl) dX9_hours_4 (fun H locs hw tr102 => ?_)
  refine lv_if_ne (tgt := 16) hx hb dX9_hours_7 (by decide) (fun c => ?_) (fun c => ?_)
  · have hf := ifn hf c
    refine lv_aload_n hx hb dX9_hours_16 rfl (lv_at hl 0 rfl) ?_
    obtain ⟨b103, eb103, hf⟩ := fo_el hf
    refine x_getR C hw fa_X9_10 (Or.inl ⟨_, rfl⟩) ta0 eb103 dX9_hours_17 (fun tb103 => ?_)
    have tb103 : (mT m0) b103 = some (.inl 8) := tb103
    refine x_getI C hw fa_X9_106 tb103 dX9_hours_20 ?_
    refine lv_iload_n hx hb dX9_hours_23 rfl (lv_at hl 1 rfl) ?_
    refine lv_iadd hx hb dX9_hours_24 ?_
    refine lv_sipush hx hb dX9_hours_25 ks_2000 ?_
    refine lv_icmp_le (tgt := 37) hx hb dX9_hours_28 (by decide) (fun c => ?_) (fun c => ?_)
    · have hf := ifp hf c
      refine lv_iconst hx hb dX9_hours_37 ki_0 ?_
      refine lv_istore_n (lv' := [(2, .int 0), (0, .ref a0), (1, .int x1)]) hx hb dX9_hours_38 rfl hl (by decide) rfl (fun ls hl => ?_)
      refine w_X9_hours_h39 C hr hk hnm ta0 ?_ 2000 _ _ _ _ _ (lv_sub hl [1, 2, 0] rfl) hw hf
      intro m104 H locs ls hl hw hf
      refine lv_aload_n hx hb dX9_hours_57 rfl (lv_at hl 0 rfl) ?_
      obtain ⟨b105, eb105, hf⟩ := fo_el hf
      refine x_getR C hw fa_X9_10 (Or.inl ⟨_, rfl⟩) ta0 eb105 dX9_hours_58 (fun tb105 => ?_)
      have tb105 : (mT m0) b105 = some (.inl 8) := tb105
      refine x_getI C hw fa_X9_106 tb105 dX9_hours_61 ?_
      exact x_retI C hr hk hw  hf (by decide) (by decide) dX9_hours_64
    · have hf := ifn hf c
      refine lv_aload_n hx hb dX9_hours_31 rfl (lv_at hl 0 rfl) ?_
      refine lv_iconst hx hb dX9_hours_32 ki_4 ?_
      obtain ⟨r107, m106, cm106, hf⟩ := b2_el (o := f_X9_finding a0 4 m101) hf
      refine x_callVi (As := [.int 4]) (rest := []) C hl.1 hw cb_X9_63 cv_X9_finding (k_X9_finding hw.2.2.2.2 ta0 cm106) ta0 rfl rfl (by decide) ⟨Nat.le_refl _, Nat.le_refl _⟩ rfl (Nat.le_of_ble_eq_true rfl) dX9_hours_33 (fun H locs hw tr107 => ?_)
      exact x_retI C hr hk hw  hf (by decide) (by decide) dX9_hours_36
  · have hf := ifp hf c
    refine lv_aload_n hx hb dX9_hours_10 rfl (lv_at hl 0 rfl) ?_
    refine lv_iconst hx hb dX9_hours_11 ki_0 ?_
    obtain ⟨r109, m108, cm108, hf⟩ := b2_el (o := f_X9_finding a0 0 m101) hf
    refine x_callVi (As := [.int 0]) (rest := []) C hl.1 hw cb_X9_63 cv_X9_finding (k_X9_finding hw.2.2.2.2 ta0 cm108) ta0 rfl rfl (by decide) ⟨Nat.le_refl _, Nat.le_refl _⟩ rfl (Nat.le_of_ble_eq_true rfl) dX9_hours_12 (fun H locs hw tr109 => ?_)
    exact x_retI C hr hk hw  hf (by decide) (by decide) dX9_hours_15
set_option maxHeartbeats 4000000 in
set_option maxRecDepth 100000 in
theorem k_X9_house {l : Launch} {D : va_G} {E : Nat → ClassId} {tU : Nat} {τ : Nat → Option XTy} {a0 : Nat} {x1 : Int32} {x2 : Int32} {m0 mE : XMem} {rE : Int32} (hm : mT m0 = τ) (ta0 : τ a0 = some (.inl 9)) (hf : f_X9_house a0 x1 x2 m0 = some (rE, mE)) : Ct l yX9_house cX9_house 8 ((Option.some FieldType.int)) 3 0 0 D E tU [.ref a0, .int x1, .int x2] m0 (some (.int rE)) mE (mT mE = mT m0 ∧ True) := by
  subst hm
  refine Ct.of (by decide) (Nat.le_of_ble_eq_true rfl) (fun p e s m below meth c ls C hr hk hnm hl hw => ?_)
  have hx := C.1
  have hb := C.2.1
  have hl : lv_has ls 8 [(0, .ref a0), (1, .int x1), (2, .int x2)] := hl
  unfold f_X9_house at hf
  refine lv_iload_n hx hb dX9_house_0 rfl (lv_at hl 1 rfl) ?_
  refine lv_sipush hx hb dX9_house_1 ks_1000 ?_
  refine lv_idiv hx hb dX9_house_4 (by decide) ?_
  refine lv_topi (fun x101 ex101 => ?_)
  have hf := nm_el hf ex101
  refine lv_istore_n (lv' := [(3, .int x101), (0, .ref a0), (1, .int x1), (2, .int x2)]) hx hb dX9_house_5 rfl hl (by decide) rfl (fun ls hl => ?_)
  refine lv_iload_n hx hb dX9_house_6 rfl (lv_at hl 2 rfl) ?_
  refine lv_bipush hx hb dX9_house_7 kb_100 ?_
  refine lv_idiv hx hb dX9_house_9 (by decide) ?_
  refine lv_bipush hx hb dX9_house_10 kb_10 ?_
  refine lv_irem hx hb dX9_house_12 (by decide) ?_
  refine lv_topi (fun x102 ex102 => ?_)
  have hf := nm_el hf ex102
  refine lv_istore (lv' := [(4, .int x102), (3, .int x101), (0, .ref a0), (1, .int x1), (2, .int x2)]) hx hb dX9_house_13 hl (by decide) rfl (fun ls hl => ?_)
  refine lv_iload_n hx hb dX9_house_15 rfl (lv_at hl 3 rfl) ?_
  refine lv_bipush hx hb dX9_house_16 kb_10 ?_
  refine lv_idiv hx hb dX9_house_18 (by decide) ?_
  refine lv_bipush hx hb dX9_house_19 kb_10 ?_
  refine lv_irem hx hb dX9_house_21 (by decide) ?_
  refine lv_topi (fun x103 ex103 => ?_)
  have hf := nm_el hf ex103
  refine lv_istore (lv' := [(5, .int x103), (4, .int x102), (3, .int x101), (0, .ref a0), (1, .int x1), (2, .int x2)]) hx hb dX9_house_22 hl (by decide) rfl (fun ls hl => ?_)
  refine lv_iload_n hx hb dX9_house_24 rfl (lv_at hl 4 rfl) ?_
  refine lv_bipush hx hb dX9_house_25 kb_10 ?_
  refine lv_irem hx hb dX9_house_27 (by decide) ?_
  refine lv_topi (fun x104 ex104 => ?_)
  have hf := nm_el hf ex104
  refine lv_istore (lv' := [(6, .int x104), (5, .int x103), (4, .int x102), (3, .int x101), (0, .ref a0), (1, .int x1), (2, .int x2)]) hx hb dX9_house_28 hl (by decide) rfl (fun ls hl => ?_)
  refine lv_iload_n hx hb dX9_house_30 rfl (lv_at hl 5 rfl) ?_
  refine lv_if_lt (tgt := 68) hx hb dX9_house_31 (by decide) (fun c => ?_) (fun c => ?_)
  · have hf := ifp hf c
    refine lv_aload_n hx hb dX9_house_68 rfl (lv_at hl 4 rfl) ?_
    refine lv_iconst hx hb dX9_house_69 ki_0 ?_
    obtain ⟨r106, m105, cm105, hf⟩ := b2_el (o := f_X9_finding a0 0 m0) hf
    refine x_callVi (As := [.int 0]) (rest := []) C hl.1 hw cb_X9_63 cv_X9_finding (k_X9_finding hw.2.2.2.2 ta0 cm105) ta0 rfl rfl (by decide) ⟨Nat.le_refl _, Nat.le_refl _⟩ rfl (Nat.le_of_ble_eq_true rfl) dX9_house_70 (fun H locs hw tr106 => ?_)
    exact x_retI C hr hk hw  hf (by decide) (by decide) dX9_house_73
  · have hf := ifn hf c
    refine lv_iload_n hx hb dX9_house_34 rfl (lv_at hl 3 rfl) ?_
    refine lv_iconst hx hb dX9_house_35 ki_1 ?_
    refine lv_bipush hx hb dX9_house_36 kb_99 ?_
    obtain ⟨r108, m107, cm107, hf⟩ := b2_el (o := f_X9_within x101 1 99 m0) hf
    refine x_callSi (As := [.int x101, .int 1, .int 99]) (rest := []) C hl.1 hw cb_X9_59 cs_X9_within (k_X9_within hw.2.2.2.2  cm107) rfl (by decide) ⟨Nat.le_refl _, Nat.le_refl _⟩ rfl (Nat.le_of_ble_eq_true rfl) dX9_house_38 (fun H locs hw tr108 => ?_)
    refine lv_if_eq (tgt := 68) hx hb dX9_house_41 (by decide) (fun c => ?_) (fun c => ?_)
    · have hf := ifp hf c
      refine lv_aload_n hx hb dX9_house_68 rfl (lv_at hl 4 rfl) ?_
      refine lv_iconst hx hb dX9_house_69 ki_0 ?_
      obtain ⟨r110, m109, cm109, hf⟩ := b2_el (o := f_X9_finding a0 0 m107) hf
      refine x_callVi (As := [.int 0]) (rest := []) C hl.1 hw cb_X9_63 cv_X9_finding (k_X9_finding hw.2.2.2.2 ta0 cm109) ta0 rfl rfl (by decide) ⟨Nat.le_refl _, Nat.le_refl _⟩ rfl (Nat.le_of_ble_eq_true rfl) dX9_house_70 (fun H locs hw tr110 => ?_)
      exact x_retI C hr hk hw  hf (by decide) (by decide) dX9_house_73
    · have hf := ifn hf c
      refine lv_iload hx hb dX9_house_44 (lv_at hl 2 rfl) ?_
      refine lv_iconst hx hb dX9_house_46 ki_1 ?_
      refine lv_icmp_gt (tgt := 68) hx hb dX9_house_47 (by decide) (fun c => ?_) (fun c => ?_)
      · have hf := ifp hf c
        refine lv_aload_n hx hb dX9_house_68 rfl (lv_at hl 4 rfl) ?_
        refine lv_iconst hx hb dX9_house_69 ki_0 ?_
        obtain ⟨r112, m111, cm111, hf⟩ := b2_el (o := f_X9_finding a0 0 m107) hf
        refine x_callVi (As := [.int 0]) (rest := []) C hl.1 hw cb_X9_63 cv_X9_finding (k_X9_finding hw.2.2.2.2 ta0 cm111) ta0 rfl rfl (by decide) ⟨Nat.le_refl _, Nat.le_refl _⟩ rfl (Nat.le_of_ble_eq_true rfl) dX9_house_70 (fun H locs hw tr112 => ?_)
        exact x_retI C hr hk hw  hf (by decide) (by decide) dX9_house_73
      · have hf := ifn hf c
        refine lv_iload hx hb dX9_house_50 (lv_at hl 1 rfl) ?_
        refine lv_iconst hx hb dX9_house_52 ki_1 ?_
        refine lv_icmp_gt (tgt := 68) hx hb dX9_house_53 (by decide) (fun c => ?_) (fun c => ?_)
        · have hf := ifp hf c
          refine lv_aload_n hx hb dX9_house_68 rfl (lv_at hl 4 rfl) ?_
          refine lv_iconst hx hb dX9_house_69 ki_0 ?_
          obtain ⟨r114, m113, cm113, hf⟩ := b2_el (o := f_X9_finding a0 0 m107) hf
          refine x_callVi (As := [.int 0]) (rest := []) C hl.1 hw cb_X9_63 cv_X9_finding (k_X9_finding hw.2.2.2.2 ta0 cm113) ta0 rfl rfl (by decide) ⟨Nat.le_refl _, Nat.le_refl _⟩ rfl (Nat.le_of_ble_eq_true rfl) dX9_house_70 (fun H locs hw tr114 => ?_)
          exact x_retI C hr hk hw  hf (by decide) (by decide) dX9_house_73
        · have hf := ifn hf c
          refine lv_aload_n hx hb dX9_house_56 rfl (lv_at hl 4 rfl) ?_
          obtain ⟨b115, eb115, hf⟩ := fo_el hf
          refine x_getR C hw fa_X9_10 (Or.inl ⟨_, rfl⟩) ta0 eb115 dX9_house_57 (fun tb115 => ?_)
          have tb115 : (mT m0) b115 = some (.inl 8) := tb115
          refine lv_iload hx hb dX9_house_60 (lv_at hl 0 rfl) ?_
          obtain ⟨o117, m116, cm116, hf⟩ := b2_el (o := f_X8_cellAt b115 x104 m107) hf
          have hmp := hw.2.2.2.2
          refine x_callVq (As := [.int x104]) (rest := []) C hl.1 hw cb_X9_96 cv_X8_cellAt (k_X8_cellAt hw.2.2.2.2 tb115 cm116) tb115 rfl rfl (by decide) ⟨Nat.le_refl _, Nat.le_refl _⟩ rfl (Nat.le_of_ble_eq_true rfl) dX9_house_62 (fun H locs hw to117 => ?_)
          have to117 : ∀ b, o117 = some b → (mT m0) b = some (.inl 0) := fun b h => by have q := to117 b h; rw [hmp] at q; exact q
          cases o117 with
          | none =>
            have hf := oc_n hf
            refine lv_ifnonnullN hx hb dX9_house_65 ?_
            refine lv_aload_n hx hb dX9_house_68 rfl (lv_at hl 4 rfl) ?_
            refine lv_iconst hx hb dX9_house_69 ki_0 ?_
            obtain ⟨r120, m119, cm119, hf⟩ := b2_el (o := f_X9_finding a0 0 m116) hf
            refine x_callVi (As := [.int 0]) (rest := []) C hl.1 hw cb_X9_63 cv_X9_finding (k_X9_finding hw.2.2.2.2 ta0 cm119) ta0 rfl rfl (by decide) ⟨Nat.le_refl _, Nat.le_refl _⟩ rfl (Nat.le_of_ble_eq_true rfl) dX9_house_70 (fun H locs hw tr120 => ?_)
            exact x_retI C hr hk hw  hf (by decide) (by decide) dX9_house_73
          | some b118 =>
            have hf := oc_s hf
            have tb118 := to117 b118 rfl
            refine lv_ifnonnull (tgt := 74) hx hb dX9_house_65 (by decide) ?_
            refine lv_iload_n hx hb dX9_house_74 rfl (lv_at hl 6 rfl) ?_
            refine lv_iconst hx hb dX9_house_75 ki_1 ?_
            refine lv_ldc hx hb C.2.2.2.1 (C.2.2.2.2.1 _ ki_X9_212) dX9_house_76 ?_
            obtain ⟨r122, m121, cm121, hf⟩ := b2_el (o := f_X9_within x2 1 99999 m116) hf
            refine x_callSi (As := [.int x2, .int 1, .int 99999]) (rest := []) C hl.1 hw cb_X9_59 cs_X9_within (k_X9_within hw.2.2.2.2  cm121) rfl (by decide) ⟨Nat.le_refl _, Nat.le_refl _⟩ rfl (Nat.le_of_ble_eq_true rfl) dX9_house_78 (fun H locs hw tr122 => ?_)
            refine lv_if_ne (tgt := 90) hx hb dX9_house_81 (by decide) (fun c => ?_) (fun c => ?_)
            · have hf := ifn hf c
              refine lv_aload_n hx hb dX9_house_90 rfl (lv_at hl 4 rfl) ?_
              obtain ⟨b123, eb123, hf⟩ := fo_el hf
              refine x_getR C hw fa_X9_10 (Or.inl ⟨_, rfl⟩) ta0 eb123 dX9_house_91 (fun tb123 => ?_)
              have tb123 : (mT m0) b123 = some (.inl 8) := tb123
              obtain ⟨o125, m124, cm124, hf⟩ := b2_el (o := f_X8_newHouse b123 m121) hf
              have hmp := hw.2.2.2.2
              refine x_callVq (As := []) (rest := []) C hl.1 hw cb_X9_213 cv_X8_newHouse (k_X8_newHouse hw.2.2.2.2 tb123 cm124) tb123 rfl rfl (by decide) ⟨Nat.le_refl _, Nat.le_refl _⟩ rfl (Nat.le_of_ble_eq_true rfl) dX9_house_94 (fun H locs hw to125 => ?_)
              have to125 : ∀ b, o125 = some b → (mT m0) b = some (.inl 1) := fun b h => by have q := to125 b h; rw [hmp] at q; exact q
              refine x_astoreQ (lv' := [(7, va_rf o125), (6, .int x104), (5, .int x103), (4, .int x102), (3, .int x101), (0, .ref a0), (1, .int x1), (2, .int x2)]) hx hb dX9_house_97 hl (by decide) rfl (fun ls hl => ?_)
              refine x_aloadQ hx hb dX9_house_99 (lv_at hl 0 rfl) ?_
              cases o125 with
              | none =>
                have hf := oc_n hf
                refine lv_ifnonnullN hx hb dX9_house_101 ?_
                refine lv_aload_n hx hb dX9_house_104 rfl (lv_at hl 5 rfl) ?_
                refine lv_iconst hx hb dX9_house_105 ki_1 ?_
                obtain ⟨r128, m127, cm127, hf⟩ := b2_el (o := f_X9_finding a0 1 m124) hf
                refine x_callVi (As := [.int 1]) (rest := []) C hl.1 hw cb_X9_63 cv_X9_finding (k_X9_finding hw.2.2.2.2 ta0 cm127) ta0 rfl rfl (by decide) ⟨Nat.le_refl _, Nat.le_refl _⟩ rfl (Nat.le_of_ble_eq_true rfl) dX9_house_106 (fun H locs hw tr128 => ?_)
                exact x_retI C hr hk hw  hf (by decide) (by decide) dX9_house_109
              | some b126 =>
                have hf := oc_s hf
                have tb126 := to125 b126 rfl
                refine lv_ifnonnull (tgt := 110) hx hb dX9_house_101 (by decide) ?_
                refine lv_aload hx hb dX9_house_110 (lv_at hl 0 rfl) ?_
                obtain ⟨m129, cm129, hf⟩ := b1_el (o := f_X1_begin b126 m124) hf
                refine x_callVv (As := []) (rest := []) C hl.1 hw cb_X9_217 cv_X1_begin (k_X1_begin hw.2.2.2.2 tb126 cm129) tb126 rfl rfl (by decide) ⟨Nat.le_refl _, Nat.le_refl _⟩ rfl (Nat.le_of_ble_eq_true rfl) dX9_house_112 (fun H locs hw tm129 => ?_)
                refine lv_aload hx hb dX9_house_115 (lv_at hl 0 rfl) ?_
                refine lv_iload hx hb dX9_house_117 (lv_at hl 1 rfl) ?_
                refine x_putI C hw fa_X9_220 tb126 dX9_house_119 (fun m130 H locs em130 hw => ?_)
                have hf := nm_el hf em130
                refine lv_aload hx hb dX9_house_122 (lv_at hl 0 rfl) ?_
                refine lv_iload_n hx hb dX9_house_124 rfl (lv_at hl 4 rfl) ?_
                refine x_putI C hw fa_X9_223 tb126 dX9_house_125 (fun m131 H locs em131 hw => ?_)
                have hf := nm_el hf em131
                refine lv_aload hx hb dX9_house_128 (lv_at hl 0 rfl) ?_
                refine lv_iload hx hb dX9_house_130 (lv_at hl 3 rfl) ?_
                refine x_putI C hw fa_X9_224 tb126 dX9_house_132 (fun m132 H locs em132 hw => ?_)
                have hf := nm_el hf em132
                refine lv_aload hx hb dX9_house_135 (lv_at hl 0 rfl) ?_
                refine lv_iload hx hb dX9_house_137 (lv_at hl 2 rfl) ?_
                refine x_putI C hw fa_X9_227 tb126 dX9_house_139 (fun m133 H locs em133 hw => ?_)
                have hf := nm_el hf em133
                refine lv_aload hx hb dX9_house_142 (lv_at hl 0 rfl) ?_
                refine lv_iload_n hx hb dX9_house_144 rfl (lv_at hl 7 rfl) ?_
                refine x_putI C hw fa_X9_230 tb126 dX9_house_145 (fun m134 H locs em134 hw => ?_)
                have hf := nm_el hf em134
                refine lv_aload_n hx hb dX9_house_148 rfl (lv_at hl 5 rfl) ?_
                obtain ⟨b135, eb135, hf⟩ := fo_el hf
                refine x_getR C hw fa_X9_10 (Or.inl ⟨_, rfl⟩) ta0 eb135 dX9_house_149 (fun tb135 => ?_)
                have tb135 : (mT m0) b135 = some (.inl 8) := tb135
                refine x_getI C hw fa_X9_233 tb135 dX9_house_152 ?_
                refine lv_iconst hx hb dX9_house_155 ki_1 ?_
                refine lv_isub hx hb dX9_house_156 ?_
                exact x_retI C hr hk hw  hf (by decide) (by decide) dX9_house_157
            · have hf := ifp hf c
              refine lv_aload_n hx hb dX9_house_84 rfl (lv_at hl 4 rfl) ?_
              refine lv_iconst hx hb dX9_house_85 ki_0 ?_
              obtain ⟨r137, m136, cm136, hf⟩ := b2_el (o := f_X9_finding a0 0 m121) hf
              refine x_callVi (As := [.int 0]) (rest := []) C hl.1 hw cb_X9_63 cv_X9_finding (k_X9_finding hw.2.2.2.2 ta0 cm136) ta0 rfl rfl (by decide) ⟨Nat.le_refl _, Nat.le_refl _⟩ rfl (Nat.le_of_ble_eq_true rfl) dX9_house_86 (fun H locs hw tr137 => ?_)
              exact x_retI C hr hk hw  hf (by decide) (by decide) dX9_house_89
set_option maxHeartbeats 4000000 in
set_option maxRecDepth 100000 in
theorem k_X9_houseOf {l : Launch} {D : va_G} {E : Nat → ClassId} {tU : Nat} {τ : Nat → Option XTy} {a0 : Nat} {x1 : Int32} {x2 : Int32} {m0 mE : XMem} {rE : Int64} (hm : mT m0 = τ) (ta0 : τ a0 = some (.inl 9)) (hf : f_X9_houseOf a0 x1 x2 m0 = some (rE, mE)) : Ct l yX9_houseOf cX9_houseOf 4 ((Option.some FieldType.long)) 2 0 0 D E tU [.ref a0, .int x1, .int x2] m0 (some (.long rE)) mE (mT mE = mT m0 ∧ True) := by
  subst hm
  refine Ct.of (by decide) (Nat.le_of_ble_eq_true rfl) (fun p e s m below meth c ls C hr hk hnm hl hw => ?_)
  have hx := C.1
  have hb := C.2.1
  have hl : lv_has ls 4 [(0, .ref a0), (1, .int x1), (2, .int x2)] := hl
  unfold f_X9_houseOf at hf
  refine lv_aload_n hx hb dX9_houseOf_0 rfl (lv_at hl 0 rfl) ?_
  obtain ⟨b101, eb101, hf⟩ := fo_el hf
  refine x_getR C hw fa_X9_10 (Or.inl ⟨_, rfl⟩) ta0 eb101 dX9_houseOf_1 (fun tb101 => ?_)
  have tb101 : (mT m0) b101 = some (.inl 8) := tb101
  refine lv_iload_n hx hb dX9_houseOf_4 rfl (lv_at hl 1 rfl) ?_
  obtain ⟨o103, m102, cm102, hf⟩ := b2_el (o := f_X8_houseAt b101 x1 m0) hf
  have hmp := hw.2.2.2.2
  refine x_callVq (As := [.int x1]) (rest := []) C hl.1 hw cb_X9_236 cv_X8_houseAt (k_X8_houseAt hw.2.2.2.2 tb101 cm102) tb101 rfl rfl (by decide) ⟨Nat.le_refl _, Nat.le_refl _⟩ rfl (Nat.le_of_ble_eq_true rfl) dX9_houseOf_5 (fun H locs hw to103 => ?_)
  have to103 : ∀ b, o103 = some b → (mT m0) b = some (.inl 1) := fun b h => by have q := to103 b h; rw [hmp] at q; exact q
  refine x_astore_nQ (lv' := [(3, va_rf o103), (0, .ref a0), (1, .int x1), (2, .int x2)]) hx hb dX9_houseOf_8 rfl hl (by decide) rfl (fun ls hl => ?_)
  refine x_aload_nQ hx hb dX9_houseOf_9 rfl (lv_at hl 0 rfl) ?_
  cases o103 with
  | none =>
    have hf := oc_n hf
    refine lv_ifnonnullN hx hb dX9_houseOf_10 ?_
    refine lv_aload_n hx hb dX9_houseOf_13 rfl (lv_at hl 1 rfl) ?_
    refine lv_iconst hx hb dX9_houseOf_14 ki_0 ?_
    obtain ⟨r106, m105, cm105, hf⟩ := b2_el (o := f_X9_finding a0 0 m102) hf
    refine x_callVi (As := [.int 0]) (rest := []) C hl.1 hw cb_X9_63 cv_X9_finding (k_X9_finding hw.2.2.2.2 ta0 cm105) ta0 rfl rfl (by decide) ⟨Nat.le_refl _, Nat.le_refl _⟩ rfl (Nat.le_of_ble_eq_true rfl) dX9_houseOf_15 (fun H locs hw tr106 => ?_)
    refine lv_i2l (v := (Int32.toInt64 r106)) hx hb dX9_houseOf_18 rfl ?_
    exact x_retL C hr hk hw  hf (by decide) (by decide) dX9_houseOf_19
  | some b104 =>
    have hf := oc_s hf
    have tb104 := to103 b104 rfl
    refine lv_ifnonnull (tgt := 20) hx hb dX9_houseOf_10 (by decide) ?_
    refine lv_iload_n hx hb dX9_houseOf_20 rfl (lv_at hl 3 rfl) ?_
    by_cases c107 : x2 = 0
    · have hf := ifp hf c107
      refine lv_tableIn (off := 55) (tgt := 76) hx hb dX9_houseOf_21 (by rw [c107]; decide) (by rw [c107]; decide) (by rw [c107]; try rfl) (by decide) ?_
      refine lv_aload_n hx hb dX9_houseOf_76 rfl (lv_at hl 0 rfl) ?_
      refine x_getI C hw fa_X9_220 tb104 dX9_houseOf_77 ?_
      refine lv_i2l (v := (Int32.toInt64 (mI m102 b104 0))) hx hb dX9_houseOf_80 rfl ?_
      exact x_retL C hr hk hw  hf (by decide) (by decide) dX9_houseOf_81
    · have hf := ifn hf c107
      by_cases c108 : x2 = 1
      · have hf := ifp hf c108
        refine lv_tableIn (off := 61) (tgt := 82) hx hb dX9_houseOf_21 (by rw [c108]; decide) (by rw [c108]; decide) (by rw [c108]; try rfl) (by decide) ?_
        refine lv_aload_n hx hb dX9_houseOf_82 rfl (lv_at hl 0 rfl) ?_
        refine x_getI C hw fa_X9_223 tb104 dX9_houseOf_83 ?_
        refine lv_i2l (v := (Int32.toInt64 (mI m102 b104 1))) hx hb dX9_houseOf_86 rfl ?_
        exact x_retL C hr hk hw  hf (by decide) (by decide) dX9_houseOf_87
      · have hf := ifn hf c108
        by_cases c109 : x2 = 2
        · have hf := ifp hf c109
          refine lv_tableIn (off := 67) (tgt := 88) hx hb dX9_houseOf_21 (by rw [c109]; decide) (by rw [c109]; decide) (by rw [c109]; try rfl) (by decide) ?_
          refine lv_aload_n hx hb dX9_houseOf_88 rfl (lv_at hl 0 rfl) ?_
          refine x_getI C hw fa_X9_224 tb104 dX9_houseOf_89 ?_
          refine lv_i2l (v := (Int32.toInt64 (mI m102 b104 2))) hx hb dX9_houseOf_92 rfl ?_
          exact x_retL C hr hk hw  hf (by decide) (by decide) dX9_houseOf_93
        · have hf := ifn hf c109
          by_cases c110 : x2 = 3
          · have hf := ifp hf c110
            refine lv_tableIn (off := 73) (tgt := 94) hx hb dX9_houseOf_21 (by rw [c110]; decide) (by rw [c110]; decide) (by rw [c110]; try rfl) (by decide) ?_
            refine lv_aload_n hx hb dX9_houseOf_94 rfl (lv_at hl 0 rfl) ?_
            refine x_getI C hw fa_X9_227 tb104 dX9_houseOf_95 ?_
            refine lv_i2l (v := (Int32.toInt64 (mI m102 b104 3))) hx hb dX9_houseOf_98 rfl ?_
            exact x_retL C hr hk hw  hf (by decide) (by decide) dX9_houseOf_99
          · have hf := ifn hf c110
            by_cases c111 : x2 = 4
            · have hf := ifp hf c111
              refine lv_tableIn (off := 79) (tgt := 100) hx hb dX9_houseOf_21 (by rw [c111]; decide) (by rw [c111]; decide) (by rw [c111]; try rfl) (by decide) ?_
              refine lv_aload_n hx hb dX9_houseOf_100 rfl (lv_at hl 0 rfl) ?_
              refine x_getI C hw fa_X9_230 tb104 dX9_houseOf_101 ?_
              refine lv_i2l (v := (Int32.toInt64 (mI m102 b104 4))) hx hb dX9_houseOf_104 rfl ?_
              exact x_retL C hr hk hw  hf (by decide) (by decide) dX9_houseOf_105
            · have hf := ifn hf c111
              by_cases c112 : x2 = 5
              · have hf := ifp hf c112
                refine lv_tableIn (off := 85) (tgt := 106) hx hb dX9_houseOf_21 (by rw [c112]; decide) (by rw [c112]; decide) (by rw [c112]; try rfl) (by decide) ?_
                refine lv_aload_n hx hb dX9_houseOf_106 rfl (lv_at hl 0 rfl) ?_
                refine x_getI C hw fa_X9_240 tb104 dX9_houseOf_107 ?_
                refine lv_i2l (v := (Int32.toInt64 (mI m102 b104 5))) hx hb dX9_houseOf_110 rfl ?_
                exact x_retL C hr hk hw  hf (by decide) (by decide) dX9_houseOf_111
              · have hf := ifn hf c112
                by_cases c113 : x2 = 6
                · have hf := ifp hf c113
                  refine lv_tableIn (off := 91) (tgt := 112) hx hb dX9_houseOf_21 (by rw [c113]; decide) (by rw [c113]; decide) (by rw [c113]; try rfl) (by decide) ?_
                  refine lv_aload_n hx hb dX9_houseOf_112 rfl (lv_at hl 0 rfl) ?_
                  obtain ⟨l115, m114, cm114, hf⟩ := b2_el (o := f_X1_balance b104 m102) hf
                  refine x_callVl (As := []) (rest := []) C hl.1 hw cb_X9_243 cv_X1_balance (k_X1_balance hw.2.2.2.2 tb104 cm114) tb104 rfl rfl (by decide) ⟨Nat.le_refl _, Nat.le_refl _⟩ rfl (Nat.le_of_ble_eq_true rfl) dX9_houseOf_113 (fun H locs hw tl115 => ?_)
                  exact x_retL C hr hk hw  hf (by decide) (by decide) dX9_houseOf_116
                · have hf := ifn hf c113
                  by_cases c116 : x2 = 7
                  · have hf := ifp hf c116
                    refine lv_tableIn (off := 96) (tgt := 117) hx hb dX9_houseOf_21 (by rw [c116]; decide) (by rw [c116]; decide) (by rw [c116]; try rfl) (by decide) ?_
                    refine lv_aload_n hx hb dX9_houseOf_117 rfl (lv_at hl 0 rfl) ?_
                    refine x_getL C hw fa_X9_247 tb104 dX9_houseOf_118 ?_
                    refine lv_aload_n hx hb dX9_houseOf_121 rfl (lv_at hl 0 rfl) ?_
                    refine x_getL C hw fa_X9_251 tb104 dX9_houseOf_122 ?_
                    refine x_mminL C hl.1 km_X9_254 (by decide) (Nat.le_of_ble_eq_true rfl) (by decide) (Nat.zero_le _) (Nat.zero_le _) dX9_houseOf_125 ?_
                    refine lv_topl (fun l117 el117 => ?_)
                    have hf := nm_el hf el117
                    exact x_retL C hr hk hw  hf (by decide) (by decide) dX9_houseOf_128
                  · have hf := ifn hf c116
                    by_cases c118 : x2 = 8
                    · have hf := ifp hf c118
                      refine lv_tableIn (off := 108) (tgt := 129) hx hb dX9_houseOf_21 (by rw [c118]; decide) (by rw [c118]; decide) (by rw [c118]; try rfl) (by decide) ?_
                      refine lv_aload_n hx hb dX9_houseOf_129 rfl (lv_at hl 0 rfl) ?_
                      refine x_getL C hw fa_X9_247 tb104 dX9_houseOf_130 ?_
                      refine lv_aload_n hx hb dX9_houseOf_133 rfl (lv_at hl 0 rfl) ?_
                      refine x_getL C hw fa_X9_251 tb104 dX9_houseOf_134 ?_
                      refine x_mmaxL C hl.1 km_X9_257 (by decide) (Nat.le_of_ble_eq_true rfl) (by decide) (Nat.zero_le _) (Nat.zero_le _) dX9_houseOf_137 ?_
                      refine lv_topl (fun l119 el119 => ?_)
                      have hf := nm_el hf el119
                      exact x_retL C hr hk hw  hf (by decide) (by decide) dX9_houseOf_140
                    · have hf := ifn hf c118
                      by_cases c120 : x2 = 9
                      · have hf := ifp hf c120
                        refine lv_tableIn (off := 120) (tgt := 141) hx hb dX9_houseOf_21 (by rw [c120]; decide) (by rw [c120]; decide) (by rw [c120]; try rfl) (by decide) ?_
                        refine lv_aload_n hx hb dX9_houseOf_141 rfl (lv_at hl 0 rfl) ?_
                        refine x_getI C hw fa_X9_260 tb104 dX9_houseOf_142 ?_
                        refine lv_i2l (v := (Int32.toInt64 (mI m102 b104 8))) hx hb dX9_houseOf_145 rfl ?_
                        exact x_retL C hr hk hw  hf (by decide) (by decide) dX9_houseOf_146
                      · have hf := ifn hf c120
                        refine lv_tableOut (tgt := 147) hx hb dX9_houseOf_21 (by
                            have hc107 := sw_ne (a := 0) c107 (by decide)
                            have hc108 := sw_ne (a := 1) c108 (by decide)
                            have hc109 := sw_ne (a := 2) c109 (by decide)
                            have hc110 := sw_ne (a := 3) c110 (by decide)
                            have hc111 := sw_ne (a := 4) c111 (by decide)
                            have hc112 := sw_ne (a := 5) c112 (by decide)
                            have hc113 := sw_ne (a := 6) c113 (by decide)
                            have hc116 := sw_ne (a := 7) c116 (by decide)
                            have hc118 := sw_ne (a := 8) c118 (by decide)
                            have hc120 := sw_ne (a := 9) c120 (by decide)
                            omega) (by decide) ?_
                        refine lv_aload_n hx hb dX9_houseOf_147 rfl (lv_at hl 1 rfl) ?_
                        refine lv_iconst hx hb dX9_houseOf_148 ki_0 ?_
                        obtain ⟨r122, m121, cm121, hf⟩ := b2_el (o := f_X9_finding a0 0 m102) hf
                        refine x_callVi (As := [.int 0]) (rest := []) C hl.1 hw cb_X9_63 cv_X9_finding (k_X9_finding hw.2.2.2.2 ta0 cm121) ta0 rfl rfl (by decide) ⟨Nat.le_refl _, Nat.le_refl _⟩ rfl (Nat.le_of_ble_eq_true rfl) dX9_houseOf_149 (fun H locs hw tr122 => ?_)
                        refine lv_i2l (v := (Int32.toInt64 r122)) hx hb dX9_houseOf_152 rfl ?_
                        exact x_retL C hr hk hw  hf (by decide) (by decide) dX9_houseOf_153
set_option maxHeartbeats 4000000 in
set_option maxRecDepth 100000 in
theorem k_X9_image {l : Launch} {D : va_G} {E : Nat → ClassId} {tU : Nat} {τ : Nat → Option XTy} {a0 : Nat} {m0 mE : XMem} {rE : Int32} (hm : mT m0 = τ) (ta0 : τ a0 = some (.inl 9)) (hf : f_X9_image a0 m0 = some (rE, mE)) : Ct l yX9_image cX9_image 1 ((Option.some FieldType.int)) 3 0 0 D E tU [.ref a0] m0 (some (.int rE)) mE (mT mE = mT m0 ∧ True) := by
  subst hm
  refine Ct.of (by decide) (Nat.le_of_ble_eq_true rfl) (fun p e s m below meth c ls C hr hk hnm hl hw => ?_)
  have hx := C.1
  have hb := C.2.1
  have hl : lv_has ls 1 [(0, .ref a0)] := hl
  unfold f_X9_image at hf
  refine lv_aload_n hx hb dX9_image_0 rfl (lv_at hl 0 rfl) ?_
  obtain ⟨b101, eb101, hf⟩ := fo_el hf
  refine x_getR C hw fa_X9_16 (Or.inl ⟨_, rfl⟩) ta0 eb101 dX9_image_1 (fun tb101 => ?_)
  have tb101 : (mT m0) b101 = some (.inl 8) := tb101
  refine lv_aload_n hx hb dX9_image_4 rfl (lv_at hl 0 rfl) ?_
  obtain ⟨b102, eb102, hf⟩ := fo_el hf
  refine x_getR C hw fa_X9_10 (Or.inl ⟨_, rfl⟩) ta0 eb102 dX9_image_5 (fun tb102 => ?_)
  have tb102 : (mT m0) b102 = some (.inl 8) := tb102
  obtain ⟨m103, cm103, hf⟩ := b1_el (o := f_X8_take b101 b102 m0) hf
  refine x_callVv (As := [.ref b102]) (rest := []) C hl.1 hw cb_X9_345 cv_X8_take (k_X8_take hw.2.2.2.2 tb101 tb102 cm103) tb101 rfl rfl (by decide) ⟨Nat.le_refl _, Nat.le_refl _⟩ rfl (Nat.le_of_ble_eq_true rfl) dX9_image_8 (fun H locs hw tm103 => ?_)
  refine lv_aload_n hx hb dX9_image_11 rfl (lv_at hl 0 rfl) ?_
  refine lv_iconst hx hb dX9_image_12 ki_1 ?_
  refine x_putZ C hw fa_X9_19 ta0 (Or.inr rfl) dX9_image_13 (fun m104 H locs em104 hw => ?_)
  have hf := nm_el hf em104
  refine lv_iconst hx hb dX9_image_16 ki_1 ?_
  exact x_retI C hr hk hw  hf (by decide) (by decide) dX9_image_17
set_option maxHeartbeats 4000000 in
set_option maxRecDepth 100000 in
theorem w_X9_init_h93 {KC KS : Nat} {p : Program} {l : Launch} {e : Env} {s : State} {m : MethodId} {args : Array Value} {below : List Frame} {meth : Method} {c : Code} {D : va_G} {E : Nat → ClassId} {tU : Nat} {m0 mE : XMem} (C : Cx p s m args c cX9_init 2 RX9 D E (Am m0) tU) (hr : meth.sig.returnType = ((Option.none : Option FieldType))) (hk : meth.locks = false) (hnm : meth.name = yX9_init.name) (hKC : KC ≤ 82) (hKS : KS ≤ 1421) {a0 : Nat} {k121 :  XMem → Option (XMem)} (hk121 : ∀  (mu : XMem) (T : Nat → Option XTy) (H : Heap) (locs : List Loc) (ls : Array Slot), lv_has ls 2 [] → Wd D E (Am m0) s T mu H locs → (T a0 = some (.inl 9)) → (∀ q u, mT m0 q = some u → T q = some u) → k121  mu = some mE → W p l e (rmN 3 82 1421) s m args below meth c H locs KC KS (MQ below (XQ D E (Am m0) (none) mE (XA m0 mE ∧ True)) args s 82 1421 (Am m0)) (F0 m 121 ls [])) : ∀ (n : Nat) (x1 : Int32) (mu : XMem) (T : Nat → Option XTy) (H : Heap) (locs : List Loc) (ls : Array Slot) (cs sl : Nat), lv_has ls 2 [(0, .ref a0), (1, .int x1)] → Wd D E (Am m0) s T mu H locs → (T a0 = some (.inl 9)) → (∀ q u, mT m0 q = some u → T q = some u) → cs + n * 2 ≤ KC → sl + n * 43 ≤ KS → f_X9_init_h93 a0 k121 n x1 mu = some mE → W p l e (rmN 3 82 1421) s m args below meth c H locs cs sl (MQ below (XQ D E (Am m0) (none) mE (XA m0 mE ∧ True)) args s 82 1421 (Am m0)) (F0 m 93 ls []) := by
  have hx := C.1
  have hb := C.2.1
  intro n
  induction n with
  | zero =>
    intros
    rename_i hf
    cases hf
  | succ n ih =>
    intro x1 mu T H locs ls cs sl hl hw ta0 hmo hcb hsb hf
    rw [f_X9_init_h93] at hf
    simp only [Nat.add_mul, Nat.one_mul] at hcb hsb
    refine lv_iload_n hx hb dX9_init_93 rfl (lv_at hl 1 rfl) ?_
    refine lv_aload_n hx hb dX9_init_94 rfl (lv_at hl 0 rfl) ?_
    obtain ⟨b133, eb133, hf⟩ := fo_el hf
    refine x_getR C hw fa_X9_39 (Or.inr ⟨_, rfl⟩) ta0 eb133 dX9_init_95 (fun tb133 => ?_)
    have tb133 : ∃ n, T b133 = some (.inr (6, n)) := tb133
    refine x_alen (ek := 6) C hw rfl tb133 dX9_init_98 ?_
    refine lv_icmp_ge (tgt := 121) hx hb dX9_init_99 (by decide) (fun c => ?_) (fun c => ?_)
    · have hf := ifp hf c
      refine W.widen (k := KC) (n := KS) (by omega) (by omega) ?_
      exact hk121 _ _ _ _ _ (lv_sub hl [] rfl) hw ta0 hmo hf
    · have hf := ifn hf c
      refine lv_aload_n hx hb dX9_init_102 rfl (lv_at hl 0 rfl) ?_
      obtain ⟨b134, eb134, hf⟩ := fo_el hf
      refine x_getR C hw fa_X9_39 (Or.inr ⟨_, rfl⟩) ta0 eb134 dX9_init_103 (fun tb134 => ?_)
      have tb134 : ∃ n, T b134 = some (.inr (6, n)) := tb134
      refine lv_iload_n hx hb dX9_init_106 rfl (lv_at hl 1 rfl) ?_
      refine x_new C hw xc_4 kc_X9_37 kn_X4 in_X4 (by first | omega | (simp only [rmN]; omega)) (by first | omega | (simp only [rmN]; omega)) dX9_init_107 (fun b135 m136 H Tm136 eb135 em136 hw tb135 mom136 => ?_)
      have hf := nm_el hf eb135
      have hf := nm_el hf em136
      have ta0 := mom136 _ _ ta0
      have tb134 := xmo mom136 tb134
      have hmo := fun q u h => mom136 q u (hmo q u h)
      refine lv_dup hx hb dX9_init_110 rfl ?_
      obtain ⟨m137, cm137, hf⟩ := b1_el (o := f_X4_init b135 m136) hf
      refine x_callMvN (As := []) (rest := [.ref b135, .int x1, .ref b134]) C hl.1 hw C.2.2.2.2.2.2.1.1.2.2.2.2.2.2.1 co_X4_init in_X4 cp_X4_init (by decide) rfl ci_X4_init (k_X4_init hw.2.2.2.2 tb135 cm137) rfl (by decide) ⟨(by first | omega | (simp only [rmN]; omega)), (by first | omega | (simp only [rmN]; omega))⟩ rfl (Nat.le_of_ble_eq_true rfl) dX9_init_111 (fun H locs Tm137 eTm137 hw mom137 tm137 => ?_)
      have ta0 := mom137 _ _ ta0
      have tb135 := mom137 _ _ tb135
      have tb134 := xmo mom137 tb134
      have hmo := fun q u h => mom137 q u (hmo q u h)
      obtain ⟨g138, hf⟩ := gd_el hf
      refine x_aast (k := 3) (o := (some b135)) C hw rfl rfl rfl tb134 (fun b h => by cases h; exact tb135) g138 dX9_init_114 (fun m139 H locs em139 hw => ?_)
      have hf := nm_el hf em139
      obtain ⟨x140, ex140⟩ : ∃ z : Int32, z = x1 + 1 := ⟨_, rfl⟩
      have hf := nm_el hf ex140
      refine lv_iinc (v := x140) (lv' := [(1, .int x140), (0, .ref a0)]) hx hb dX9_init_115 hl (k := 1) rfl (by rw [ex140, ki_1]) (by decide) rfl (fun ls hl => ?_)
      refine lv_goto (tgt := 93) hx hb dX9_init_118 (by decide) ?_
      refine ih _ _ _ _ _ _ _ _ (lv_sub hl [1, 0] rfl) hw ta0 hmo ?_ ?_ hf
      · omega
      · omega
set_option maxHeartbeats 4000000 in
set_option maxRecDepth 100000 in
theorem k_X9_init {l : Launch} {D : va_G} {E : Nat → ClassId} {tU : Nat} {τ : Nat → Option XTy} {a0 : Nat} {m0 mE : XMem} (hm : mT m0 = τ) (ta0 : τ a0 = some (.inl 9)) (hf : f_X9_init a0 m0 = some mE) : Ct l yX9_init cX9_init 2 ((Option.none : Option FieldType)) 3 82 1421 D E tU [.ref a0] m0 (none) mE (XA m0 mE ∧ True) := by
  subst hm
  refine Ct.of (by decide) (Nat.le_of_ble_eq_true rfl) (fun p e s m below meth c ls C hr hk hnm hl hw => ?_)
  have hx := C.1
  have hb := C.2.1
  have hl : lv_has ls 2 [(0, .ref a0)] := hl
  unfold f_X9_init at hf
  have hmo : ∀ q u, mT m0 q = some u → mT m0 q = some u := fun _ _ h => h
  refine lv_aload_n hx hb dX9_init_0 rfl (lv_at hl 0 rfl) ?_
  refine x_obj C hl.1 ko_X9_1 ko_i ko_c (by decide) (Nat.le_of_ble_eq_true rfl) (by decide) dX9_init_1 ?_
  refine lv_aload_n hx hb dX9_init_4 rfl (lv_at hl 0 rfl) ?_
  refine x_new C hw xc_8 kc_X9_7 kn_X8 in_X8 (by decide) (by decide) dX9_init_5 (fun b101 m102 H Tm102 eb101 em102 hw tb101 mom102 => ?_)
  have hf := nm_el hf eb101
  have hf := nm_el hf em102
  have ta0 := mom102 _ _ ta0
  have hmo := fun q u h => mom102 q u (hmo q u h)
  refine lv_dup hx hb dX9_init_8 rfl ?_
  obtain ⟨m103, cm103, hf⟩ := b1_el (o := f_X8_init b101 m102) hf
  refine x_callIvN (As := []) (rest := [.ref b101, .ref a0]) C hl.1 hw cb_X9_9 rfl ci_X8_init (k_X8_init hw.2.2.2.2 tb101 cm103) rfl (by decide) ⟨(by decide), (by decide)⟩ rfl (Nat.le_of_ble_eq_true rfl) dX9_init_9 (fun H locs Tm103 eTm103 hw mom103 tm103 => ?_)
  have ta0 := mom103 _ _ ta0
  have tb101 := mom103 _ _ tb101
  have hmo := fun q u h => mom103 q u (hmo q u h)
  refine x_putFR C hnm hw fa_X9_10 (Or.inl ⟨_, rfl⟩) rfl ta0 tb101 dX9_init_12 (fun m104 H locs em104 hw => ?_)
  have hf := nm_el hf em104
  refine lv_aload_n hx hb dX9_init_15 rfl (lv_at hl 0 rfl) ?_
  refine x_new C hw xc_8 kc_X9_7 kn_X8 in_X8 (by decide) (by decide) dX9_init_16 (fun b105 m106 H Tm106 eb105 em106 hw tb105 mom106 => ?_)
  have hf := nm_el hf eb105
  have hf := nm_el hf em106
  have ta0 := mom106 _ _ ta0
  have hmo := fun q u h => mom106 q u (hmo q u h)
  refine lv_dup hx hb dX9_init_19 rfl ?_
  obtain ⟨m107, cm107, hf⟩ := b1_el (o := f_X8_init b105 m106) hf
  refine x_callIvN (As := []) (rest := [.ref b105, .ref a0]) C hl.1 hw cb_X9_9 rfl ci_X8_init (k_X8_init hw.2.2.2.2 tb105 cm107) rfl (by decide) ⟨(by decide), (by decide)⟩ rfl (Nat.le_of_ble_eq_true rfl) dX9_init_20 (fun H locs Tm107 eTm107 hw mom107 tm107 => ?_)
  have ta0 := mom107 _ _ ta0
  have tb105 := mom107 _ _ tb105
  have hmo := fun q u h => mom107 q u (hmo q u h)
  refine x_putFR C hnm hw fa_X9_16 (Or.inl ⟨_, rfl⟩) rfl ta0 tb105 dX9_init_23 (fun m108 H locs em108 hw => ?_)
  have hf := nm_el hf em108
  refine lv_aload_n hx hb dX9_init_26 rfl (lv_at hl 0 rfl) ?_
  refine lv_iconst hx hb dX9_init_27 ki_0 ?_
  refine x_putZ C hw fa_X9_19 ta0 (Or.inl rfl) dX9_init_28 (fun m109 H locs em109 hw => ?_)
  have hf := nm_el hf em109
  refine lv_aload_n hx hb dX9_init_31 rfl (lv_at hl 0 rfl) ?_
  refine x_new C hw xc_5 kc_X9_23 kn_X5 in_X5 (by decide) (by decide) dX9_init_32 (fun b110 m111 H Tm111 eb110 em111 hw tb110 mom111 => ?_)
  have hf := nm_el hf eb110
  have hf := nm_el hf em111
  have ta0 := mom111 _ _ ta0
  have hmo := fun q u h => mom111 q u (hmo q u h)
  refine lv_dup hx hb dX9_init_35 rfl ?_
  obtain ⟨m112, cm112, hf⟩ := b1_el (o := f_X5_init b110 m111) hf
  refine x_callMvN (As := []) (rest := [.ref b110, .ref a0]) C hl.1 hw C.2.2.2.2.2.2.1.1.2.2.2.1 co_X5_init in_X5 cp_X5_init (by decide) rfl ci_X5_init (k_X5_init hw.2.2.2.2 tb110 cm112) rfl (by decide) ⟨(by decide), (by decide)⟩ rfl (Nat.le_of_ble_eq_true rfl) dX9_init_36 (fun H locs Tm112 eTm112 hw mom112 tm112 => ?_)
  have ta0 := mom112 _ _ ta0
  have tb110 := mom112 _ _ tb110
  have hmo := fun q u h => mom112 q u (hmo q u h)
  refine x_putFR C hnm hw fa_X9_26 (Or.inl ⟨_, rfl⟩) rfl ta0 tb110 dX9_init_39 (fun m113 H locs em113 hw => ?_)
  have hf := nm_el hf em113
  refine lv_aload_n hx hb dX9_init_42 rfl (lv_at hl 0 rfl) ?_
  refine x_new C hw xc_3 kc_X9_30 kn_X3 in_X3 (by decide) (by decide) dX9_init_43 (fun b114 m115 H Tm115 eb114 em115 hw tb114 mom115 => ?_)
  have hf := nm_el hf eb114
  have hf := nm_el hf em115
  have ta0 := mom115 _ _ ta0
  have hmo := fun q u h => mom115 q u (hmo q u h)
  refine lv_dup hx hb dX9_init_46 rfl ?_
  obtain ⟨m116, cm116, hf⟩ := b1_el (o := f_X3_init b114 m115) hf
  refine x_callMvN (As := []) (rest := [.ref b114, .ref a0]) C hl.1 hw C.2.2.2.2.2.2.1.1.2.2.2.2.1 co_X3_init in_X3 cp_X3_init (by decide) rfl ci_X3_init (k_X3_init hw.2.2.2.2 tb114 cm116) rfl (by decide) ⟨(by decide), (by decide)⟩ rfl (Nat.le_of_ble_eq_true rfl) dX9_init_47 (fun H locs Tm116 eTm116 hw mom116 tm116 => ?_)
  have ta0 := mom116 _ _ ta0
  have tb114 := mom116 _ _ tb114
  have hmo := fun q u h => mom116 q u (hmo q u h)
  refine x_putFR C hnm hw fa_X9_33 (Or.inl ⟨_, rfl⟩) rfl ta0 tb114 dX9_init_50 (fun m117 H locs em117 hw => ?_)
  have hf := nm_el hf em117
  refine lv_aload_n hx hb dX9_init_53 rfl (lv_at hl 0 rfl) ?_
  refine lv_iconst hx hb dX9_init_54 ki_4 ?_
  refine x_newR (k := 3) (N := 4) C hw rfl kc_X9_37 C.2.2.2.2.2.2.1.2.2.2.2 (by decide) (by decide) (by decide) (by decide) (by decide) dX9_init_55 (fun b118 m119 H Tm119 eb118 em119 hw tb118 mom119 => ?_)
  have hf := nm_el hf eb118
  have hf := nm_el hf em119
  have tb118 : ∃ n, Tm119 b118 = some (.inr (6, n)) := ⟨_, tb118⟩
  have ta0 := mom119 _ _ ta0
  have hmo := fun q u h => mom119 q u (hmo q u h)
  refine x_putFR C hnm hw fa_X9_39 (Or.inr ⟨_, rfl⟩) rfl ta0 tb118 dX9_init_58 (fun m120 H locs em120 hw => ?_)
  have hf := nm_el hf em120
  refine lv_aload_n hx hb dX9_init_61 rfl (lv_at hl 0 rfl) ?_
  refine lv_bipush hx hb dX9_init_62 kb_7 ?_
  refine x_newI (N := 7) C hw (by decide) (by decide) (by decide) (by decide) (by decide) dX9_init_64 (fun b121 m122 H Tm122 eb121 em122 hw tb121 mom122 => ?_)
  have hf := nm_el hf eb121
  have hf := nm_el hf em122
  have tb121 : ∃ n, Tm122 b121 = some (.inr (0, n)) := ⟨_, tb121⟩
  have ta0 := mom122 _ _ ta0
  have hmo := fun q u h => mom122 q u (hmo q u h)
  refine x_putFR C hnm hw fa_X9_43 (Or.inr ⟨_, rfl⟩) rfl ta0 tb121 dX9_init_66 (fun m123 H locs em123 hw => ?_)
  have hf := nm_el hf em123
  refine lv_aload_n hx hb dX9_init_69 rfl (lv_at hl 0 rfl) ?_
  refine x_new C hw xc_0 kc_X9_47 kn_X0 in_X0 (by decide) (by decide) dX9_init_70 (fun b124 m125 H Tm125 eb124 em125 hw tb124 mom125 => ?_)
  have hf := nm_el hf eb124
  have hf := nm_el hf em125
  have ta0 := mom125 _ _ ta0
  have hmo := fun q u h => mom125 q u (hmo q u h)
  refine lv_dup hx hb dX9_init_73 rfl ?_
  obtain ⟨m126, cm126, hf⟩ := b1_el (o := f_X0_init b124 m125) hf
  refine x_callMv (As := []) (rest := [.ref b124, .ref a0]) C hl.1 hw C.2.2.2.2.2.2.1.1.2.2.2.2.2.1 co_X0_init in_X0 cp_X0_init (by decide) rfl ci_X0_init (k_X0_init hw.2.2.2.2 tb124 cm126) rfl (by decide) ⟨(by decide), (by decide)⟩ rfl (Nat.le_of_ble_eq_true rfl) dX9_init_74 (fun H locs hw tm126 => ?_)
  refine x_putFR C hnm hw fa_X9_50 (Or.inl ⟨_, rfl⟩) rfl ta0 tb124 dX9_init_77 (fun m127 H locs em127 hw => ?_)
  have hf := nm_el hf em127
  refine lv_aload_n hx hb dX9_init_80 rfl (lv_at hl 0 rfl) ?_
  refine x_new C hw xc_0 kc_X9_47 kn_X0 in_X0 (by decide) (by decide) dX9_init_81 (fun b128 m129 H Tm129 eb128 em129 hw tb128 mom129 => ?_)
  have hf := nm_el hf eb128
  have hf := nm_el hf em129
  have ta0 := mom129 _ _ ta0
  have hmo := fun q u h => mom129 q u (hmo q u h)
  refine lv_dup hx hb dX9_init_84 rfl ?_
  obtain ⟨m130, cm130, hf⟩ := b1_el (o := f_X0_init b128 m129) hf
  refine x_callMv (As := []) (rest := [.ref b128, .ref a0]) C hl.1 hw C.2.2.2.2.2.2.1.1.2.2.2.2.2.1 co_X0_init in_X0 cp_X0_init (by decide) rfl ci_X0_init (k_X0_init hw.2.2.2.2 tb128 cm130) rfl (by decide) ⟨(by decide), (by decide)⟩ rfl (Nat.le_of_ble_eq_true rfl) dX9_init_85 (fun H locs hw tm130 => ?_)
  refine x_putFR C hnm hw fa_X9_54 (Or.inl ⟨_, rfl⟩) rfl ta0 tb128 dX9_init_88 (fun m131 H locs em131 hw => ?_)
  have hf := nm_el hf em131
  refine lv_iconst hx hb dX9_init_91 ki_0 ?_
  refine lv_istore_n (lv' := [(1, .int 0), (0, .ref a0)]) hx hb dX9_init_92 rfl hl (by decide) rfl (fun ls hl => ?_)
  refine w_X9_init_h93 (KC := 82) (KS := 1421) C hr hk hnm (by decide) (by decide) ?_ 10 _ _ _ _ _ _ _ _ (lv_sub hl [1, 0] rfl) hw ta0 hmo (by decide) (by decide) hf
  intro m132 Tm132 H locs ls hl hw ta0 hmo hf
  exact x_retN C hr hk hw hmo hf (by decide) (by decide) dX9_init_121
set_option maxHeartbeats 4000000 in
set_option maxRecDepth 100000 in
theorem k_X9_latest {l : Launch} {D : va_G} {E : Nat → ClassId} {tU : Nat} {τ : Nat → Option XTy} {a0 : Nat} {x1 : Int32} {x2 : Int32} {m0 mE : XMem} {rE : Int32} (hm : mT m0 = τ) (ta0 : τ a0 = some (.inl 9)) (hf : f_X9_latest a0 x1 x2 m0 = some (rE, mE)) : Ct l yX9_latest cX9_latest 4 ((Option.some FieldType.int)) 2 0 0 D E tU [.ref a0, .int x1, .int x2] m0 (some (.int rE)) mE (mT mE = mT m0 ∧ True) := by
  subst hm
  refine Ct.of (by decide) (Nat.le_of_ble_eq_true rfl) (fun p e s m below meth c ls C hr hk hnm hl hw => ?_)
  have hx := C.1
  have hb := C.2.1
  have hl : lv_has ls 4 [(0, .ref a0), (1, .int x1), (2, .int x2)] := hl
  unfold f_X9_latest at hf
  refine lv_aload_n hx hb dX9_latest_0 rfl (lv_at hl 0 rfl) ?_
  obtain ⟨b101, eb101, hf⟩ := fo_el hf
  refine x_getR C hw fa_X9_10 (Or.inl ⟨_, rfl⟩) ta0 eb101 dX9_latest_1 (fun tb101 => ?_)
  have tb101 : (mT m0) b101 = some (.inl 8) := tb101
  refine lv_iload_n hx hb dX9_latest_4 rfl (lv_at hl 1 rfl) ?_
  obtain ⟨o103, m102, cm102, hf⟩ := b2_el (o := f_X8_cellAt b101 x1 m0) hf
  have hmp := hw.2.2.2.2
  refine x_callVq (As := [.int x1]) (rest := []) C hl.1 hw cb_X9_96 cv_X8_cellAt (k_X8_cellAt hw.2.2.2.2 tb101 cm102) tb101 rfl rfl (by decide) ⟨Nat.le_refl _, Nat.le_refl _⟩ rfl (Nat.le_of_ble_eq_true rfl) dX9_latest_5 (fun H locs hw to103 => ?_)
  have to103 : ∀ b, o103 = some b → (mT m0) b = some (.inl 0) := fun b h => by have q := to103 b h; rw [hmp] at q; exact q
  refine x_astore_nQ (lv' := [(3, va_rf o103), (0, .ref a0), (1, .int x1), (2, .int x2)]) hx hb dX9_latest_8 rfl hl (by decide) rfl (fun ls hl => ?_)
  refine x_aload_nQ hx hb dX9_latest_9 rfl (lv_at hl 0 rfl) ?_
  cases o103 with
  | none =>
    have hf := oc_n hf
    refine lv_ifnonnullN hx hb dX9_latest_10 ?_
    refine lv_aload_n hx hb dX9_latest_13 rfl (lv_at hl 1 rfl) ?_
    refine lv_iconst hx hb dX9_latest_14 ki_0 ?_
    obtain ⟨r106, m105, cm105, hf⟩ := b2_el (o := f_X9_finding a0 0 m102) hf
    refine x_callVi (As := [.int 0]) (rest := []) C hl.1 hw cb_X9_63 cv_X9_finding (k_X9_finding hw.2.2.2.2 ta0 cm105) ta0 rfl rfl (by decide) ⟨Nat.le_refl _, Nat.le_refl _⟩ rfl (Nat.le_of_ble_eq_true rfl) dX9_latest_15 (fun H locs hw tr106 => ?_)
    exact x_retI C hr hk hw  hf (by decide) (by decide) dX9_latest_18
  | some b104 =>
    have hf := oc_s hf
    have tb104 := to103 b104 rfl
    refine lv_ifnonnull (tgt := 19) hx hb dX9_latest_10 (by decide) ?_
    refine lv_iload_n hx hb dX9_latest_19 rfl (lv_at hl 3 rfl) ?_
    by_cases c107 : x2 = 0
    · have hf := ifp hf c107
      refine lv_tableIn (off := 36) (tgt := 56) hx hb dX9_latest_20 (by rw [c107]; decide) (by rw [c107]; decide) (by rw [c107]; try rfl) (by decide) ?_
      refine lv_aload_n hx hb dX9_latest_56 rfl (lv_at hl 0 rfl) ?_
      refine x_getI C hw fa_X9_125 tb104 dX9_latest_57 ?_
      exact x_retI C hr hk hw  hf (by decide) (by decide) dX9_latest_60
    · have hf := ifn hf c107
      by_cases c108 : x2 = 1
      · have hf := ifp hf c108
        refine lv_tableIn (off := 41) (tgt := 61) hx hb dX9_latest_20 (by rw [c108]; decide) (by rw [c108]; decide) (by rw [c108]; try rfl) (by decide) ?_
        refine lv_aload_n hx hb dX9_latest_61 rfl (lv_at hl 0 rfl) ?_
        refine x_getI C hw fa_X9_128 tb104 dX9_latest_62 ?_
        exact x_retI C hr hk hw  hf (by decide) (by decide) dX9_latest_65
      · have hf := ifn hf c108
        by_cases c109 : x2 = 2
        · have hf := ifp hf c109
          refine lv_tableIn (off := 46) (tgt := 66) hx hb dX9_latest_20 (by rw [c109]; decide) (by rw [c109]; decide) (by rw [c109]; try rfl) (by decide) ?_
          refine lv_aload_n hx hb dX9_latest_66 rfl (lv_at hl 0 rfl) ?_
          refine x_getI C hw fa_X9_131 tb104 dX9_latest_67 ?_
          exact x_retI C hr hk hw  hf (by decide) (by decide) dX9_latest_70
        · have hf := ifn hf c109
          by_cases c110 : x2 = 3
          · have hf := ifp hf c110
            refine lv_tableIn (off := 51) (tgt := 71) hx hb dX9_latest_20 (by rw [c110]; decide) (by rw [c110]; decide) (by rw [c110]; try rfl) (by decide) ?_
            refine lv_aload_n hx hb dX9_latest_71 rfl (lv_at hl 0 rfl) ?_
            refine x_getI C hw fa_X9_134 tb104 dX9_latest_72 ?_
            exact x_retI C hr hk hw  hf (by decide) (by decide) dX9_latest_75
          · have hf := ifn hf c110
            by_cases c111 : x2 = 4
            · have hf := ifp hf c111
              refine lv_tableIn (off := 56) (tgt := 76) hx hb dX9_latest_20 (by rw [c111]; decide) (by rw [c111]; decide) (by rw [c111]; try rfl) (by decide) ?_
              refine lv_aload_n hx hb dX9_latest_76 rfl (lv_at hl 0 rfl) ?_
              refine x_getI C hw fa_X9_137 tb104 dX9_latest_77 ?_
              exact x_retI C hr hk hw  hf (by decide) (by decide) dX9_latest_80
            · have hf := ifn hf c111
              refine lv_tableOut (tgt := 81) hx hb dX9_latest_20 (by
                  have hc107 := sw_ne (a := 0) c107 (by decide)
                  have hc108 := sw_ne (a := 1) c108 (by decide)
                  have hc109 := sw_ne (a := 2) c109 (by decide)
                  have hc110 := sw_ne (a := 3) c110 (by decide)
                  have hc111 := sw_ne (a := 4) c111 (by decide)
                  omega) (by decide) ?_
              refine lv_aload_n hx hb dX9_latest_81 rfl (lv_at hl 1 rfl) ?_
              refine lv_iconst hx hb dX9_latest_82 ki_0 ?_
              obtain ⟨r113, m112, cm112, hf⟩ := b2_el (o := f_X9_finding a0 0 m102) hf
              refine x_callVi (As := [.int 0]) (rest := []) C hl.1 hw cb_X9_63 cv_X9_finding (k_X9_finding hw.2.2.2.2 ta0 cm112) ta0 rfl rfl (by decide) ⟨Nat.le_refl _, Nat.le_refl _⟩ rfl (Nat.le_of_ble_eq_true rfl) dX9_latest_83 (fun H locs hw tr113 => ?_)
              exact x_retI C hr hk hw  hf (by decide) (by decide) dX9_latest_86
set_option maxHeartbeats 4000000 in
set_option maxRecDepth 100000 in
theorem k_X9_law {l : Launch} {D : va_G} {E : Nat → ClassId} {tU : Nat} {τ : Nat → Option XTy} {a0 : Nat} {x1 : Int32} {m0 mE : XMem} {rE : Int32} (hm : mT m0 = τ) (ta0 : τ a0 = some (.inl 9)) (hf : f_X9_law a0 x1 m0 = some (rE, mE)) : Ct l yX9_law cX9_law 3 ((Option.some FieldType.int)) 5 3 103 D E tU [.ref a0, .int x1] m0 (some (.int rE)) mE (XA m0 mE ∧ True) := by
  subst hm
  refine Ct.of (by decide) (Nat.le_of_ble_eq_true rfl) (fun p e s m below meth c ls C hr hk hnm hl hw => ?_)
  have hx := C.1
  have hb := C.2.1
  have hl : lv_has ls 3 [(0, .ref a0), (1, .int x1)] := hl
  unfold f_X9_law at hf
  have hmo : ∀ q u, mT m0 q = some u → mT m0 q = some u := fun _ _ h => h
  refine lv_iload_n hx hb dX9_law_0 rfl (lv_at hl 1 rfl) ?_
  refine lv_iconst hx hb dX9_law_1 ki_0 ?_
  refine lv_sipush hx hb dX9_law_2 ks_999 ?_
  obtain ⟨r102, m101, cm101, hf⟩ := b2_el (o := f_X9_within x1 0 999 m0) hf
  refine x_callSi (As := [.int x1, .int 0, .int 999]) (rest := []) C hl.1 hw cb_X9_59 cs_X9_within (k_X9_within hw.2.2.2.2  cm101) rfl (by decide) ⟨(by decide), (by decide)⟩ rfl (Nat.le_of_ble_eq_true rfl) dX9_law_5 (fun H locs hw tr102 => ?_)
  refine lv_if_ne (tgt := 17) hx hb dX9_law_8 (by decide) (fun c => ?_) (fun c => ?_)
  · have hf := ifn hf c
    refine lv_aload_n hx hb dX9_law_17 rfl (lv_at hl 0 rfl) ?_
    obtain ⟨b103, eb103, hf⟩ := fo_el hf
    refine x_getR C hw fa_X9_10 (Or.inl ⟨_, rfl⟩) ta0 eb103 dX9_law_18 (fun tb103 => ?_)
    have tb103 : (mT m0) b103 = some (.inl 8) := tb103
    refine x_getI C hw fa_X9_163 tb103 dX9_law_21 ?_
    refine lv_bipush hx hb dX9_law_24 kb_6 ?_
    refine lv_icmp_lt (tgt := 35) hx hb dX9_law_26 (by decide) (fun c => ?_) (fun c => ?_)
    · have hf := ifp hf c
      refine lv_aload_n hx hb dX9_law_35 rfl (lv_at hl 0 rfl) ?_
      obtain ⟨b104, eb104, hf⟩ := fo_el hf
      refine x_getR C hw fa_X9_33 (Or.inl ⟨_, rfl⟩) ta0 eb104 dX9_law_36 (fun tb104 => ?_)
      have tb104 : (mT m0) b104 = some (.inl 3) := tb104
      refine lv_aload_n hx hb dX9_law_39 rfl (lv_at hl 0 rfl) ?_
      obtain ⟨b105, eb105, hf⟩ := fo_el hf
      refine x_getR C hw fa_X9_26 (Or.inl ⟨_, rfl⟩) ta0 eb105 dX9_law_40 (fun tb105 => ?_)
      have tb105 : (mT m0) b105 = some (.inl 5) := tb105
      obtain ⟨r107, m106, cm106, hf⟩ := b2_el (o := f_X3_faultOf b104 b105 m101) hf
      refine x_callVi (As := [.ref b105]) (rest := []) C hl.1 hw cb_X9_166 cv_X3_faultOf (k_X3_faultOf hw.2.2.2.2 tb104 tb105 cm106) tb104 rfl rfl (by decide) ⟨(by decide), (by decide)⟩ rfl (Nat.le_of_ble_eq_true rfl) dX9_law_43 (fun H locs hw tr107 => ?_)
      refine lv_istore_n (lv' := [(2, .int r107), (0, .ref a0), (1, .int x1)]) hx hb dX9_law_46 rfl hl (by decide) rfl (fun ls hl => ?_)
      refine lv_iload_n hx hb dX9_law_47 rfl (lv_at hl 0 rfl) ?_
      refine lv_iconst hx hb dX9_law_48 ki_m1 ?_
      refine lv_icmp_eq (tgt := 56) hx hb dX9_law_49 (by decide) (fun c => ?_) (fun c => ?_)
      · have hf := ifp hf c
        refine lv_aload_n hx hb dX9_law_56 rfl (lv_at hl 1 rfl) ?_
        obtain ⟨b108, eb108, hf⟩ := fo_el hf
        refine x_getR C hw fa_X9_10 (Or.inl ⟨_, rfl⟩) ta0 eb108 dX9_law_57 (fun tb108 => ?_)
        have tb108 : (mT m0) b108 = some (.inl 8) := tb108
        refine x_new C hw xc_2 kc_X9_170 kn_X2 in_X2 (by decide) (by decide) dX9_law_60 (fun b109 m110 H Tm110 eb109 em110 hw tb109 mom110 => ?_)
        have hf := nm_el hf eb109
        have hf := nm_el hf em110
        have ta0 := mom110 _ _ ta0
        have tb108 := mom110 _ _ tb108
        have hmo := fun q u h => mom110 q u (hmo q u h)
        refine lv_dup hx hb dX9_law_63 rfl ?_
        refine lv_aload_n hx hb dX9_law_64 rfl (lv_at hl 1 rfl) ?_
        obtain ⟨b111, eb111, hf⟩ := fo_el hf
        refine x_getR C hw fa_X9_33 (Or.inl ⟨_, rfl⟩) ta0 eb111 dX9_law_65 (fun tb111 => ?_)
        have tb111 : Tm110 b111 = some (.inl 3) := tb111
        obtain ⟨o113, m112, cm112, hf⟩ := b2_el (o := f_X3_text b111 m110) hf
        refine x_callVqN (As := []) (rest := [.ref b109, .ref b109, .ref b108]) C hl.1 hw cb_X9_172 cv_X3_text (k_X3_text hw.2.2.2.2 tb111 cm112) tb111 rfl rfl (by decide) ⟨(by decide), (by decide)⟩ rfl (Nat.le_of_ble_eq_true rfl) dX9_law_68 (fun H locs Tm112 eTm112 hw mom112 to113 => ?_)
        have ta0 := mom112 _ _ ta0
        have tb109 := mom112 _ _ tb109
        have tb108 := mom112 _ _ tb108
        have hmo := fun q u h => mom112 q u (hmo q u h)
        have to113 : ∀ b, o113 = some b → Tm112 b = some (.inl 6) := fun b h => by rw [eTm112]; exact to113 b h
        refine lv_iload_n hx hb dX9_law_71 rfl (lv_at hl 2 rfl) ?_
        obtain ⟨b114, eb114, hq⟩ := fo_el hf
        clear hf
        have tb114 := to113 b114 eb114
        subst eb114
        have hf := hq
        obtain ⟨m115, cm115, hf⟩ := b1_el (o := f_X2_init b109 b114 x1 m112) hf
        refine x_callIv (As := [.ref b114, .int x1]) (rest := [.ref b109, .ref b108]) C hl.1 hw cb_X9_176 rfl ci_X2_init (k_X2_init hw.2.2.2.2 tb109 tb114 cm115) rfl (by decide) ⟨(by decide), (by decide)⟩ rfl (Nat.le_of_ble_eq_true rfl) dX9_law_72 (fun H locs hw tm115 => ?_)
        obtain ⟨m116, cm116, hf⟩ := b1_el (o := f_X8_addLaw b108 b109 m115) hf
        refine x_callVv (As := [.ref b109]) (rest := []) C hl.1 hw cb_X9_179 cv_X8_addLaw (k_X8_addLaw hw.2.2.2.2 tb108 tb109 cm116) tb108 rfl rfl (by decide) ⟨(by decide), (by decide)⟩ rfl (Nat.le_of_ble_eq_true rfl) dX9_law_75 (fun H locs hw tm116 => ?_)
        refine lv_aload_n hx hb dX9_law_78 rfl (lv_at hl 1 rfl) ?_
        obtain ⟨b117, eb117, hf⟩ := fo_el hf
        refine x_getR C hw fa_X9_26 (Or.inl ⟨_, rfl⟩) ta0 eb117 dX9_law_79 (fun tb117 => ?_)
        have tb117 : Tm112 b117 = some (.inl 5) := tb117
        refine lv_iconst hx hb dX9_law_82 ki_0 ?_
        refine x_putI C hw fa_X9_156 tb117 dX9_law_83 (fun m118 H locs em118 hw => ?_)
        have hf := nm_el hf em118
        refine lv_aload_n hx hb dX9_law_86 rfl (lv_at hl 1 rfl) ?_
        obtain ⟨b119, eb119, hf⟩ := fo_el hf
        refine x_getR C hw fa_X9_10 (Or.inl ⟨_, rfl⟩) ta0 eb119 dX9_law_87 (fun tb119 => ?_)
        have tb119 : Tm112 b119 = some (.inl 8) := tb119
        refine x_getI C hw fa_X9_163 tb119 dX9_law_90 ?_
        refine lv_iconst hx hb dX9_law_93 ki_1 ?_
        refine lv_isub hx hb dX9_law_94 ?_
        exact x_retIN C hr hk hw hmo hf (by decide) (by decide) dX9_law_95
      · have hf := ifn hf c
        refine lv_iconst hx hb dX9_law_52 ki_m1 ?_
        refine lv_iload_n hx hb dX9_law_53 rfl (lv_at hl 0 rfl) ?_
        refine lv_isub hx hb dX9_law_54 ?_
        exact x_retIN C hr hk hw hmo hf (by decide) (by decide) dX9_law_55
    · have hf := ifn hf c
      refine lv_aload_n hx hb dX9_law_29 rfl (lv_at hl 0 rfl) ?_
      refine lv_iconst hx hb dX9_law_30 ki_1 ?_
      obtain ⟨r121, m120, cm120, hf⟩ := b2_el (o := f_X9_finding a0 1 m101) hf
      refine x_callVi (As := [.int 1]) (rest := []) C hl.1 hw cb_X9_63 cv_X9_finding (k_X9_finding hw.2.2.2.2 ta0 cm120) ta0 rfl rfl (by decide) ⟨(by decide), (by decide)⟩ rfl (Nat.le_of_ble_eq_true rfl) dX9_law_31 (fun H locs hw tr121 => ?_)
      exact x_retIN C hr hk hw hmo hf (by decide) (by decide) dX9_law_34
  · have hf := ifp hf c
    refine lv_aload_n hx hb dX9_law_11 rfl (lv_at hl 0 rfl) ?_
    refine lv_iconst hx hb dX9_law_12 ki_0 ?_
    obtain ⟨r123, m122, cm122, hf⟩ := b2_el (o := f_X9_finding a0 0 m101) hf
    refine x_callVi (As := [.int 0]) (rest := []) C hl.1 hw cb_X9_63 cv_X9_finding (k_X9_finding hw.2.2.2.2 ta0 cm122) ta0 rfl rfl (by decide) ⟨(by decide), (by decide)⟩ rfl (Nat.le_of_ble_eq_true rfl) dX9_law_13 (fun H locs hw tr123 => ?_)
    exact x_retIN C hr hk hw hmo hf (by decide) (by decide) dX9_law_16
set_option maxHeartbeats 4000000 in
set_option maxRecDepth 100000 in
theorem k_X9_line {l : Launch} {D : va_G} {E : Nat → ClassId} {tU : Nat} {τ : Nat → Option XTy} {a0 : Nat} {x1 : Int32} {x2 : Int32} {m0 mE : XMem} {rE : Int32} (hm : mT m0 = τ) (ta0 : τ a0 = some (.inl 9)) (hf : f_X9_line a0 x1 x2 m0 = some (rE, mE)) : Ct l yX9_line cX9_line 5 ((Option.some FieldType.int)) 2 0 0 D E tU [.ref a0, .int x1, .int x2] m0 (some (.int rE)) mE (mT mE = mT m0 ∧ True) := by
  subst hm
  refine Ct.of (by decide) (Nat.le_of_ble_eq_true rfl) (fun p e s m below meth c ls C hr hk hnm hl hw => ?_)
  have hx := C.1
  have hb := C.2.1
  have hl : lv_has ls 5 [(0, .ref a0), (1, .int x1), (2, .int x2)] := hl
  unfold f_X9_line at hf
  refine lv_aload_n hx hb dX9_line_0 rfl (lv_at hl 0 rfl) ?_
  obtain ⟨b101, eb101, hf⟩ := fo_el hf
  refine x_getR C hw fa_X9_10 (Or.inl ⟨_, rfl⟩) ta0 eb101 dX9_line_1 (fun tb101 => ?_)
  have tb101 : (mT m0) b101 = some (.inl 8) := tb101
  refine lv_iload_n hx hb dX9_line_4 rfl (lv_at hl 1 rfl) ?_
  obtain ⟨o103, m102, cm102, hf⟩ := b2_el (o := f_X8_houseAt b101 x1 m0) hf
  have hmp := hw.2.2.2.2
  refine x_callVq (As := [.int x1]) (rest := []) C hl.1 hw cb_X9_236 cv_X8_houseAt (k_X8_houseAt hw.2.2.2.2 tb101 cm102) tb101 rfl rfl (by decide) ⟨Nat.le_refl _, Nat.le_refl _⟩ rfl (Nat.le_of_ble_eq_true rfl) dX9_line_5 (fun H locs hw to103 => ?_)
  have to103 : ∀ b, o103 = some b → (mT m0) b = some (.inl 1) := fun b h => by have q := to103 b h; rw [hmp] at q; exact q
  refine x_astore_nQ (lv' := [(3, va_rf o103), (0, .ref a0), (1, .int x1), (2, .int x2)]) hx hb dX9_line_8 rfl hl (by decide) rfl (fun ls hl => ?_)
  refine x_aload_nQ hx hb dX9_line_9 rfl (lv_at hl 0 rfl) ?_
  cases o103 with
  | none =>
    have hf := oc_n hf
    refine lv_ifnullN (tgt := 24) hx hb dX9_line_10 (by decide) ?_
    refine lv_aload_n hx hb dX9_line_24 rfl (lv_at hl 1 rfl) ?_
    refine lv_iconst hx hb dX9_line_25 ki_0 ?_
    obtain ⟨r106, m105, cm105, hf⟩ := b2_el (o := f_X9_finding a0 0 m102) hf
    refine x_callVi (As := [.int 0]) (rest := []) C hl.1 hw cb_X9_63 cv_X9_finding (k_X9_finding hw.2.2.2.2 ta0 cm105) ta0 rfl rfl (by decide) ⟨Nat.le_refl _, Nat.le_refl _⟩ rfl (Nat.le_of_ble_eq_true rfl) dX9_line_26 (fun H locs hw tr106 => ?_)
    exact x_retI C hr hk hw  hf (by decide) (by decide) dX9_line_29
  | some b104 =>
    have hf := oc_s hf
    have tb104 := to103 b104 rfl
    refine lv_ifnull hx hb dX9_line_10 ?_
    refine lv_iload_n hx hb dX9_line_13 rfl (lv_at hl 3 rfl) ?_
    refine lv_iconst hx hb dX9_line_14 ki_0 ?_
    refine lv_sipush hx hb dX9_line_15 ks_999 ?_
    obtain ⟨r108, m107, cm107, hf⟩ := b2_el (o := f_X9_within x2 0 999 m102) hf
    refine x_callSi (As := [.int x2, .int 0, .int 999]) (rest := []) C hl.1 hw cb_X9_59 cs_X9_within (k_X9_within hw.2.2.2.2  cm107) rfl (by decide) ⟨Nat.le_refl _, Nat.le_refl _⟩ rfl (Nat.le_of_ble_eq_true rfl) dX9_line_18 (fun H locs hw tr108 => ?_)
    refine lv_if_ne (tgt := 30) hx hb dX9_line_21 (by decide) (fun c => ?_) (fun c => ?_)
    · have hf := ifn hf c
      refine lv_aload_n hx hb dX9_line_30 rfl (lv_at hl 0 rfl) ?_
      refine x_getI C hw fa_X9_280 tb104 dX9_line_31 ?_
      refine lv_topi (fun x109 ex109 => ?_)
      have hf := nm_el hf ex109
      refine lv_istore (lv' := [(4, .int x109), (3, .ref b104), (0, .ref a0), (1, .int x1), (2, .int x2)]) hx hb dX9_line_34 hl (by decide) rfl (fun ls hl => ?_)
      refine lv_aload_n hx hb dX9_line_36 rfl (lv_at hl 1 rfl) ?_
      refine x_getZ C hw fa_X9_283 tb104 dX9_line_37 ?_
      refine lv_if_eq (tgt := 59) hx hb dX9_line_40 (by decide) (fun c => ?_) (fun c => ?_)
      · have hf := ifp hf c
        refine lv_aload_n hx hb dX9_line_59 rfl (lv_at hl 1 rfl) ?_
        refine lv_iload_n hx hb dX9_line_60 rfl (lv_at hl 4 rfl) ?_
        refine x_putI C hw fa_X9_280 tb104 dX9_line_61 (fun m110 H locs em110 hw => ?_)
        have hf := nm_el hf em110
        refine lv_iload hx hb dX9_line_64 (lv_at hl 0 rfl) ?_
        exact x_retI C hr hk hw  hf (by decide) (by decide) dX9_line_66
      · have hf := ifn hf c
        refine lv_iload_n hx hb dX9_line_43 rfl (lv_at hl 4 rfl) ?_
        refine lv_iload hx hb dX9_line_44 (lv_at hl 0 rfl) ?_
        refine lv_icmp_eq (tgt := 59) hx hb dX9_line_46 (by decide) (fun c => ?_) (fun c => ?_)
        · have hf := ifp hf c
          refine lv_aload_n hx hb dX9_line_59 rfl (lv_at hl 1 rfl) ?_
          refine lv_iload_n hx hb dX9_line_60 rfl (lv_at hl 4 rfl) ?_
          refine x_putI C hw fa_X9_280 tb104 dX9_line_61 (fun m111 H locs em111 hw => ?_)
          have hf := nm_el hf em111
          refine lv_iload hx hb dX9_line_64 (lv_at hl 0 rfl) ?_
          exact x_retI C hr hk hw  hf (by decide) (by decide) dX9_line_66
        · have hf := ifn hf c
          refine lv_aload_n hx hb dX9_line_49 rfl (lv_at hl 1 rfl) ?_
          refine lv_dup hx hb dX9_line_50 rfl ?_
          refine x_getI C hw fa_X9_286 tb104 dX9_line_51 ?_
          refine lv_iconst hx hb dX9_line_54 ki_1 ?_
          refine lv_iadd hx hb dX9_line_55 ?_
          refine x_putI C hw fa_X9_286 tb104 dX9_line_56 (fun m112 H locs em112 hw => ?_)
          have hf := nm_el hf em112
          refine lv_aload_n hx hb dX9_line_59 rfl (lv_at hl 1 rfl) ?_
          refine lv_iload_n hx hb dX9_line_60 rfl (lv_at hl 4 rfl) ?_
          refine x_putI C hw fa_X9_280 tb104 dX9_line_61 (fun m113 H locs em113 hw => ?_)
          have hf := nm_el hf em113
          refine lv_iload hx hb dX9_line_64 (lv_at hl 0 rfl) ?_
          exact x_retI C hr hk hw  hf (by decide) (by decide) dX9_line_66
    · have hf := ifp hf c
      refine lv_aload_n hx hb dX9_line_24 rfl (lv_at hl 1 rfl) ?_
      refine lv_iconst hx hb dX9_line_25 ki_0 ?_
      obtain ⟨r115, m114, cm114, hf⟩ := b2_el (o := f_X9_finding a0 0 m107) hf
      refine x_callVi (As := [.int 0]) (rest := []) C hl.1 hw cb_X9_63 cv_X9_finding (k_X9_finding hw.2.2.2.2 ta0 cm114) ta0 rfl rfl (by decide) ⟨Nat.le_refl _, Nat.le_refl _⟩ rfl (Nat.le_of_ble_eq_true rfl) dX9_line_26 (fun H locs hw tr115 => ?_)
      exact x_retI C hr hk hw  hf (by decide) (by decide) dX9_line_29
set_option maxHeartbeats 4000000 in
set_option maxRecDepth 100000 in
theorem k_X9_look {l : Launch} {D : va_G} {E : Nat → ClassId} {tU : Nat} {τ : Nat → Option XTy} {a0 : Nat} {x1 : Int32} {x2 : Int32} {x3 : Int32} {x4 : Int32} {m0 mE : XMem} {rE : Int32} (hm : mT m0 = τ) (ta0 : τ a0 = some (.inl 9)) (hf : f_X9_look a0 x1 x2 x3 x4 m0 = some (rE, mE)) : Ct l yX9_look cX9_look 14 ((Option.some FieldType.int)) 7 0 0 D E tU [.ref a0, .int x1, .int x2, .int x3, .int x4] m0 (some (.int rE)) mE (mT mE = mT m0 ∧ True) := by
  subst hm
  refine Ct.of (by decide) (Nat.le_of_ble_eq_true rfl) (fun p e s m below meth c ls C hr hk hnm hl hw => ?_)
  have hx := C.1
  have hb := C.2.1
  have hl : lv_has ls 14 [(0, .ref a0), (1, .int x1), (2, .int x2), (3, .int x3), (4, .int x4)] := hl
  unfold f_X9_look at hf
  refine lv_aload_n hx hb dX9_look_0 rfl (lv_at hl 0 rfl) ?_
  obtain ⟨b101, eb101, hf⟩ := fo_el hf
  refine x_getR C hw fa_X9_10 (Or.inl ⟨_, rfl⟩) ta0 eb101 dX9_look_1 (fun tb101 => ?_)
  have tb101 : (mT m0) b101 = some (.inl 8) := tb101
  refine lv_iload_n hx hb dX9_look_4 rfl (lv_at hl 1 rfl) ?_
  obtain ⟨o103, m102, cm102, hf⟩ := b2_el (o := f_X8_cellAt b101 x1 m0) hf
  have hmp := hw.2.2.2.2
  refine x_callVq (As := [.int x1]) (rest := []) C hl.1 hw cb_X9_96 cv_X8_cellAt (k_X8_cellAt hw.2.2.2.2 tb101 cm102) tb101 rfl rfl (by decide) ⟨Nat.le_refl _, Nat.le_refl _⟩ rfl (Nat.le_of_ble_eq_true rfl) dX9_look_5 (fun H locs hw to103 => ?_)
  have to103 : ∀ b, o103 = some b → (mT m0) b = some (.inl 0) := fun b h => by have q := to103 b h; rw [hmp] at q; exact q
  refine x_astoreQ (lv' := [(5, va_rf o103), (0, .ref a0), (1, .int x1), (2, .int x2), (3, .int x3), (4, .int x4)]) hx hb dX9_look_8 hl (by decide) rfl (fun ls hl => ?_)
  refine x_aloadQ hx hb dX9_look_10 (lv_at hl 0 rfl) ?_
  cases o103 with
  | none =>
    have hf := oc_n hf
    refine lv_ifnullN (tgt := 42) hx hb dX9_look_12 (by decide) ?_
    refine lv_aload_n hx hb dX9_look_42 rfl (lv_at hl 1 rfl) ?_
    refine lv_iconst hx hb dX9_look_43 ki_0 ?_
    obtain ⟨r106, m105, cm105, hf⟩ := b2_el (o := f_X9_finding a0 0 m102) hf
    refine x_callVi (As := [.int 0]) (rest := []) C hl.1 hw cb_X9_63 cv_X9_finding (k_X9_finding hw.2.2.2.2 ta0 cm105) ta0 rfl rfl (by decide) ⟨Nat.le_refl _, Nat.le_refl _⟩ rfl (Nat.le_of_ble_eq_true rfl) dX9_look_44 (fun H locs hw tr106 => ?_)
    exact x_retI C hr hk hw  hf (by decide) (by decide) dX9_look_47
  | some b104 =>
    have hf := oc_s hf
    have tb104 := to103 b104 rfl
    refine lv_ifnull hx hb dX9_look_12 ?_
    refine lv_aload_n hx hb dX9_look_15 rfl (lv_at hl 1 rfl) ?_
    refine lv_iload_n hx hb dX9_look_16 rfl (lv_at hl 3 rfl) ?_
    obtain ⟨r108, m107, cm107, hf⟩ := b2_el (o := f_X9_isLawOrNone a0 x2 m102) hf
    refine x_callVi (As := [.int x2]) (rest := []) C hl.1 hw cb_X9_190 cv_X9_isLawOrNone (k_X9_isLawOrNone hw.2.2.2.2 ta0 cm107) ta0 rfl rfl (by decide) ⟨Nat.le_refl _, Nat.le_refl _⟩ rfl (Nat.le_of_ble_eq_true rfl) dX9_look_17 (fun H locs hw tr108 => ?_)
    refine lv_if_eq (tgt := 42) hx hb dX9_look_20 (by decide) (fun c => ?_) (fun c => ?_)
    · have hf := ifp hf c
      refine lv_aload_n hx hb dX9_look_42 rfl (lv_at hl 1 rfl) ?_
      refine lv_iconst hx hb dX9_look_43 ki_0 ?_
      obtain ⟨r110, m109, cm109, hf⟩ := b2_el (o := f_X9_finding a0 0 m107) hf
      refine x_callVi (As := [.int 0]) (rest := []) C hl.1 hw cb_X9_63 cv_X9_finding (k_X9_finding hw.2.2.2.2 ta0 cm109) ta0 rfl rfl (by decide) ⟨Nat.le_refl _, Nat.le_refl _⟩ rfl (Nat.le_of_ble_eq_true rfl) dX9_look_44 (fun H locs hw tr110 => ?_)
      exact x_retI C hr hk hw  hf (by decide) (by decide) dX9_look_47
    · have hf := ifn hf c
      refine lv_aload_n hx hb dX9_look_23 rfl (lv_at hl 1 rfl) ?_
      refine lv_iload_n hx hb dX9_look_24 rfl (lv_at hl 4 rfl) ?_
      obtain ⟨r112, m111, cm111, hf⟩ := b2_el (o := f_X9_isLawOrNone a0 x3 m107) hf
      refine x_callVi (As := [.int x3]) (rest := []) C hl.1 hw cb_X9_190 cv_X9_isLawOrNone (k_X9_isLawOrNone hw.2.2.2.2 ta0 cm111) ta0 rfl rfl (by decide) ⟨Nat.le_refl _, Nat.le_refl _⟩ rfl (Nat.le_of_ble_eq_true rfl) dX9_look_25 (fun H locs hw tr112 => ?_)
      refine lv_if_eq (tgt := 42) hx hb dX9_look_28 (by decide) (fun c => ?_) (fun c => ?_)
      · have hf := ifp hf c
        refine lv_aload_n hx hb dX9_look_42 rfl (lv_at hl 1 rfl) ?_
        refine lv_iconst hx hb dX9_look_43 ki_0 ?_
        obtain ⟨r114, m113, cm113, hf⟩ := b2_el (o := f_X9_finding a0 0 m111) hf
        refine x_callVi (As := [.int 0]) (rest := []) C hl.1 hw cb_X9_63 cv_X9_finding (k_X9_finding hw.2.2.2.2 ta0 cm113) ta0 rfl rfl (by decide) ⟨Nat.le_refl _, Nat.le_refl _⟩ rfl (Nat.le_of_ble_eq_true rfl) dX9_look_44 (fun H locs hw tr114 => ?_)
        exact x_retI C hr hk hw  hf (by decide) (by decide) dX9_look_47
      · have hf := ifn hf c
        refine lv_iload hx hb dX9_look_31 (lv_at hl 5 rfl) ?_
        refine lv_iconst hx hb dX9_look_33 ki_1 ?_
        refine lv_bipush hx hb dX9_look_34 kb_100 ?_
        obtain ⟨r116, m115, cm115, hf⟩ := b2_el (o := f_X9_within x4 1 100 m111) hf
        refine x_callSi (As := [.int x4, .int 1, .int 100]) (rest := []) C hl.1 hw cb_X9_59 cs_X9_within (k_X9_within hw.2.2.2.2  cm115) rfl (by decide) ⟨Nat.le_refl _, Nat.le_refl _⟩ rfl (Nat.le_of_ble_eq_true rfl) dX9_look_36 (fun H locs hw tr116 => ?_)
        refine lv_if_ne (tgt := 48) hx hb dX9_look_39 (by decide) (fun c => ?_) (fun c => ?_)
        · have hf := ifn hf c
          refine lv_aload_n hx hb dX9_look_48 rfl (lv_at hl 1 rfl) ?_
          obtain ⟨b117, eb117, hf⟩ := fo_el hf
          refine x_getR C hw fa_X9_50 (Or.inl ⟨_, rfl⟩) ta0 eb117 dX9_look_49 (fun tb117 => ?_)
          have tb117 : (mT m0) b117 = some (.inl 0) := tb117
          refine lv_aload hx hb dX9_look_52 (lv_at hl 0 rfl) ?_
          obtain ⟨m118, cm118, hf⟩ := b1_el (o := f_X0_take b117 b104 m115) hf
          refine x_callVv (As := [.ref b104]) (rest := []) C hl.1 hw cb_X9_289 cv_X0_take (k_X0_take hw.2.2.2.2 tb117 tb104 cm118) tb117 rfl rfl (by decide) ⟨Nat.le_refl _, Nat.le_refl _⟩ rfl (Nat.le_of_ble_eq_true rfl) dX9_look_54 (fun H locs hw tm118 => ?_)
          refine lv_aload_n hx hb dX9_look_57 rfl (lv_at hl 1 rfl) ?_
          obtain ⟨b119, eb119, hf⟩ := fo_el hf
          refine x_getR C hw fa_X9_54 (Or.inl ⟨_, rfl⟩) ta0 eb119 dX9_look_58 (fun tb119 => ?_)
          have tb119 : (mT m0) b119 = some (.inl 0) := tb119
          refine lv_aload hx hb dX9_look_61 (lv_at hl 0 rfl) ?_
          obtain ⟨m120, cm120, hf⟩ := b1_el (o := f_X0_take b119 b104 m118) hf
          refine x_callVv (As := [.ref b104]) (rest := []) C hl.1 hw cb_X9_289 cv_X0_take (k_X0_take hw.2.2.2.2 tb119 tb104 cm120) tb119 rfl rfl (by decide) ⟨Nat.le_refl _, Nat.le_refl _⟩ rfl (Nat.le_of_ble_eq_true rfl) dX9_look_63 (fun H locs hw tm120 => ?_)
          refine lv_aload_n hx hb dX9_look_66 rfl (lv_at hl 1 rfl) ?_
          obtain ⟨b121, eb121, hf⟩ := fo_el hf
          refine x_getR C hw fa_X9_10 (Or.inl ⟨_, rfl⟩) ta0 eb121 dX9_look_67 (fun tb121 => ?_)
          have tb121 : (mT m0) b121 = some (.inl 8) := tb121
          refine lv_aload_n hx hb dX9_look_70 rfl (lv_at hl 1 rfl) ?_
          obtain ⟨b122, eb122, hf⟩ := fo_el hf
          refine x_getR C hw fa_X9_50 (Or.inl ⟨_, rfl⟩) ta0 eb122 dX9_look_71 (fun tb122 => ?_)
          have tb122 : (mT m0) b122 = some (.inl 0) := tb122
          refine lv_iload_n hx hb dX9_look_74 rfl (lv_at hl 2 rfl) ?_
          refine lv_iload_n hx hb dX9_look_75 rfl (lv_at hl 3 rfl) ?_
          refine lv_iload hx hb dX9_look_76 (lv_at hl 5 rfl) ?_
          obtain ⟨m123, cm123, hf⟩ := b1_el (o := f_X8_foretell b121 b122 x1 x2 x4 m120) hf
          refine x_callVv (As := [.ref b122, .int x1, .int x2, .int x4]) (rest := []) C hl.1 hw cb_X9_293 cv_X8_foretell (k_X8_foretell hw.2.2.2.2 tb121 tb122 cm123) tb121 rfl rfl (by decide) ⟨Nat.le_refl _, Nat.le_refl _⟩ rfl (Nat.le_of_ble_eq_true rfl) dX9_look_78 (fun H locs hw tm123 => ?_)
          refine lv_aload_n hx hb dX9_look_81 rfl (lv_at hl 1 rfl) ?_
          obtain ⟨b124, eb124, hf⟩ := fo_el hf
          refine x_getR C hw fa_X9_10 (Or.inl ⟨_, rfl⟩) ta0 eb124 dX9_look_82 (fun tb124 => ?_)
          have tb124 : (mT m0) b124 = some (.inl 8) := tb124
          refine lv_aload_n hx hb dX9_look_85 rfl (lv_at hl 1 rfl) ?_
          obtain ⟨b125, eb125, hf⟩ := fo_el hf
          refine x_getR C hw fa_X9_54 (Or.inl ⟨_, rfl⟩) ta0 eb125 dX9_look_86 (fun tb125 => ?_)
          have tb125 : (mT m0) b125 = some (.inl 0) := tb125
          refine lv_iload_n hx hb dX9_look_89 rfl (lv_at hl 2 rfl) ?_
          refine lv_iload_n hx hb dX9_look_90 rfl (lv_at hl 4 rfl) ?_
          refine lv_iload hx hb dX9_look_91 (lv_at hl 5 rfl) ?_
          obtain ⟨m126, cm126, hf⟩ := b1_el (o := f_X8_foretell b124 b125 x1 x3 x4 m123) hf
          refine x_callVv (As := [.ref b125, .int x1, .int x3, .int x4]) (rest := []) C hl.1 hw cb_X9_293 cv_X8_foretell (k_X8_foretell hw.2.2.2.2 tb124 tb125 cm126) tb124 rfl rfl (by decide) ⟨Nat.le_refl _, Nat.le_refl _⟩ rfl (Nat.le_of_ble_eq_true rfl) dX9_look_93 (fun H locs hw tm126 => ?_)
          refine lv_aload_n hx hb dX9_look_96 rfl (lv_at hl 1 rfl) ?_
          obtain ⟨b127, eb127, hf⟩ := fo_el hf
          refine x_getR C hw fa_X9_50 (Or.inl ⟨_, rfl⟩) ta0 eb127 dX9_look_97 (fun tb127 => ?_)
          have tb127 : (mT m0) b127 = some (.inl 0) := tb127
          obtain ⟨r129, m128, cm128, hf⟩ := b2_el (o := f_X0_thermometer b127 m126) hf
          refine x_callVi (As := []) (rest := []) C hl.1 hw cb_X9_122 cv_X0_thermometer (k_X0_thermometer hw.2.2.2.2 tb127 cm128) tb127 rfl rfl (by decide) ⟨Nat.le_refl _, Nat.le_refl _⟩ rfl (Nat.le_of_ble_eq_true rfl) dX9_look_100 (fun H locs hw tr129 => ?_)
          refine lv_aload_n hx hb dX9_look_103 rfl (lv_at hl 1 rfl) ?_
          obtain ⟨b130, eb130, hf⟩ := fo_el hf
          refine x_getR C hw fa_X9_54 (Or.inl ⟨_, rfl⟩) ta0 eb130 dX9_look_104 (fun tb130 => ?_)
          have tb130 : (mT m0) b130 = some (.inl 0) := tb130
          obtain ⟨r132, m131, cm131, hf⟩ := b2_el (o := f_X0_thermometer b130 m128) hf
          refine x_callVi (As := []) (rest := [.int r129]) C hl.1 hw cb_X9_122 cv_X0_thermometer (k_X0_thermometer hw.2.2.2.2 tb130 cm131) tb130 rfl rfl (by decide) ⟨Nat.le_refl _, Nat.le_refl _⟩ rfl (Nat.le_of_ble_eq_true rfl) dX9_look_107 (fun H locs hw tr132 => ?_)
          obtain ⟨l134, m133, cm133, hf⟩ := b2_el (o := f_X9_apart r129 r132 m131) hf
          refine x_callSl (As := [.int r129, .int r132]) (rest := []) C hl.1 hw cb_X9_303 cs_X9_apart (k_X9_apart hw.2.2.2.2  cm133) rfl (by decide) ⟨Nat.le_refl _, Nat.le_refl _⟩ rfl (Nat.le_of_ble_eq_true rfl) dX9_look_110 (fun H locs hw tl134 => ?_)
          refine lv_lstore (lv' := [(6, .long l134), (5, .ref b104), (0, .ref a0), (1, .int x1), (2, .int x2), (3, .int x3), (4, .int x4)]) hx hb dX9_look_113 hl (by decide) rfl (fun ls hl => ?_)
          refine lv_aload_n hx hb dX9_look_115 rfl (lv_at hl 2 rfl) ?_
          obtain ⟨b135, eb135, hf⟩ := fo_el hf
          refine x_getR C hw fa_X9_50 (Or.inl ⟨_, rfl⟩) ta0 eb135 dX9_look_116 (fun tb135 => ?_)
          have tb135 : (mT m0) b135 = some (.inl 0) := tb135
          refine x_getI C hw fa_X9_137 tb135 dX9_look_119 ?_
          refine lv_aload_n hx hb dX9_look_122 rfl (lv_at hl 2 rfl) ?_
          obtain ⟨b136, eb136, hf⟩ := fo_el hf
          refine x_getR C hw fa_X9_54 (Or.inl ⟨_, rfl⟩) ta0 eb136 dX9_look_123 (fun tb136 => ?_)
          have tb136 : (mT m0) b136 = some (.inl 0) := tb136
          refine x_getI C hw fa_X9_137 tb136 dX9_look_126 ?_
          obtain ⟨l138, m137, cm137, hf⟩ := b2_el (o := f_X9_apart (mI m133 b135 12) (mI m133 b136 12) m133) hf
          refine x_callSl (As := [.int (mI m133 b135 12), .int (mI m133 b136 12)]) (rest := []) C hl.1 hw cb_X9_303 cs_X9_apart (k_X9_apart hw.2.2.2.2  cm137) rfl (by decide) ⟨Nat.le_refl _, Nat.le_refl _⟩ rfl (Nat.le_of_ble_eq_true rfl) dX9_look_129 (fun H locs hw tl138 => ?_)
          refine lv_lstore (lv' := [(8, .long l138), (6, .long l134), (5, .ref b104), (0, .ref a0), (1, .int x1), (2, .int x2), (3, .int x3), (4, .int x4)]) hx hb dX9_look_132 hl (by decide) rfl (fun ls hl => ?_)
          refine lv_aload_n hx hb dX9_look_134 rfl (lv_at hl 3 rfl) ?_
          obtain ⟨b139, eb139, hf⟩ := fo_el hf
          refine x_getR C hw fa_X9_50 (Or.inl ⟨_, rfl⟩) ta0 eb139 dX9_look_135 (fun tb139 => ?_)
          have tb139 : (mT m0) b139 = some (.inl 0) := tb139
          refine x_getI C hw fa_X9_112 tb139 dX9_look_138 ?_
          refine lv_aload_n hx hb dX9_look_141 rfl (lv_at hl 3 rfl) ?_
          obtain ⟨b140, eb140, hf⟩ := fo_el hf
          refine x_getR C hw fa_X9_54 (Or.inl ⟨_, rfl⟩) ta0 eb140 dX9_look_142 (fun tb140 => ?_)
          have tb140 : (mT m0) b140 = some (.inl 0) := tb140
          refine x_getI C hw fa_X9_112 tb140 dX9_look_145 ?_
          obtain ⟨l142, m141, cm141, hf⟩ := b2_el (o := f_X9_apart (mI m137 b139 6) (mI m137 b140 6) m137) hf
          refine x_callSl (As := [.int (mI m137 b139 6), .int (mI m137 b140 6)]) (rest := []) C hl.1 hw cb_X9_303 cs_X9_apart (k_X9_apart hw.2.2.2.2  cm141) rfl (by decide) ⟨Nat.le_refl _, Nat.le_refl _⟩ rfl (Nat.le_of_ble_eq_true rfl) dX9_look_148 (fun H locs hw tl142 => ?_)
          refine lv_lstore (lv' := [(10, .long l142), (8, .long l138), (6, .long l134), (5, .ref b104), (0, .ref a0), (1, .int x1), (2, .int x2), (3, .int x3), (4, .int x4)]) hx hb dX9_look_151 hl (by decide) rfl (fun ls hl => ?_)
          refine lv_lload hx hb dX9_look_153 (lv_at hl 2 rfl) ?_
          refine lv_lload hx hb dX9_look_155 (lv_at hl 1 rfl) ?_
          refine lv_lload hx hb dX9_look_157 (lv_at hl 0 rfl) ?_
          refine x_mmaxL C hl.1 km_X9_257 (by decide) (Nat.le_of_ble_eq_true rfl) (by decide) (Nat.zero_le _) (Nat.zero_le _) dX9_look_159 ?_
          refine lv_topl (fun l143 el143 => ?_)
          have hf := nm_el hf el143
          refine x_mmaxL C hl.1 km_X9_257 (by decide) (Nat.le_of_ble_eq_true rfl) (by decide) (Nat.zero_le _) (Nat.zero_le _) dX9_look_162 ?_
          refine lv_topl (fun l144 el144 => ?_)
          have hf := nm_el hf el144
          refine lv_lstore (lv' := [(12, .long l144), (10, .long l142), (8, .long l138), (6, .long l134), (5, .ref b104), (0, .ref a0), (1, .int x1), (2, .int x2), (3, .int x3), (4, .int x4)]) hx hb dX9_look_165 hl (by decide) rfl (fun ls hl => ?_)
          refine lv_lload hx hb dX9_look_167 (lv_at hl 0 rfl) ?_
          refine lv_lconst hx hb dX9_look_169 kl_0 ?_
          refine W.lcmp hx hb dX9_look_170 ?_
          refine lv_if_ne (tgt := 180) hx hb dX9_look_171 (by decide) (fun c => ?_) (fun c => ?_)
          · have hf := ifn hf c
            refine lv_lload hx hb dX9_look_180 (lv_at hl 3 rfl) ?_
            refine lv_lload hx hb dX9_look_182 (lv_at hl 0 rfl) ?_
            refine W.lcmp hx hb dX9_look_184 ?_
            refine lv_if_ne (tgt := 190) hx hb dX9_look_185 (by decide) (fun c => ?_) (fun c => ?_)
            · have hf := ifn hf c
              refine lv_lload hx hb dX9_look_190 (lv_at hl 2 rfl) ?_
              refine lv_lload hx hb dX9_look_192 (lv_at hl 0 rfl) ?_
              refine W.lcmp hx hb dX9_look_194 ?_
              refine lv_if_ne (tgt := 202) hx hb dX9_look_195 (by decide) (fun c => ?_) (fun c => ?_)
              · have hf := ifn hf c
                refine lv_iconst hx hb dX9_look_202 ki_2 ?_
                exact x_retI C hr hk hw  hf (by decide) (by decide) dX9_look_203
              · have hf := ifp hf c
                refine lv_iconst hx hb dX9_look_198 ki_1 ?_
                refine lv_goto (tgt := 203) hx hb dX9_look_199 (by decide) ?_
                exact x_retI C hr hk hw  hf (by decide) (by decide) dX9_look_203
            · have hf := ifp hf c
              refine lv_iconst hx hb dX9_look_188 ki_0 ?_
              exact x_retI C hr hk hw  hf (by decide) (by decide) dX9_look_189
          · have hf := ifp hf c
            refine lv_aload_n hx hb dX9_look_174 rfl (lv_at hl 5 rfl) ?_
            refine lv_iconst hx hb dX9_look_175 ki_3 ?_
            obtain ⟨r146, m145, cm145, hf⟩ := b2_el (o := f_X9_finding a0 3 m141) hf
            refine x_callVi (As := [.int 3]) (rest := []) C hl.1 hw cb_X9_63 cv_X9_finding (k_X9_finding hw.2.2.2.2 ta0 cm145) ta0 rfl rfl (by decide) ⟨Nat.le_refl _, Nat.le_refl _⟩ rfl (Nat.le_of_ble_eq_true rfl) dX9_look_176 (fun H locs hw tr146 => ?_)
            exact x_retI C hr hk hw  hf (by decide) (by decide) dX9_look_179
        · have hf := ifp hf c
          refine lv_aload_n hx hb dX9_look_42 rfl (lv_at hl 1 rfl) ?_
          refine lv_iconst hx hb dX9_look_43 ki_0 ?_
          obtain ⟨r148, m147, cm147, hf⟩ := b2_el (o := f_X9_finding a0 0 m115) hf
          refine x_callVi (As := [.int 0]) (rest := []) C hl.1 hw cb_X9_63 cv_X9_finding (k_X9_finding hw.2.2.2.2 ta0 cm147) ta0 rfl rfl (by decide) ⟨Nat.le_refl _, Nat.le_refl _⟩ rfl (Nat.le_of_ble_eq_true rfl) dX9_look_44 (fun H locs hw tr148 => ?_)
          exact x_retI C hr hk hw  hf (by decide) (by decide) dX9_look_47
set_option maxHeartbeats 4000000 in
set_option maxRecDepth 100000 in
theorem k_X9_moved {l : Launch} {D : va_G} {E : Nat → ClassId} {tU : Nat} {τ : Nat → Option XTy} {a0 : Nat} {x1 : Int32} {m0 mE : XMem} {rE : Int32} (hm : mT m0 = τ) (ta0 : τ a0 = some (.inl 9)) (hf : f_X9_moved a0 x1 m0 = some (rE, mE)) : Ct l yX9_moved cX9_moved 3 ((Option.some FieldType.int)) 2 0 0 D E tU [.ref a0, .int x1] m0 (some (.int rE)) mE (mT mE = mT m0 ∧ True) := by
  subst hm
  refine Ct.of (by decide) (Nat.le_of_ble_eq_true rfl) (fun p e s m below meth c ls C hr hk hnm hl hw => ?_)
  have hx := C.1
  have hb := C.2.1
  have hl : lv_has ls 3 [(0, .ref a0), (1, .int x1)] := hl
  unfold f_X9_moved at hf
  refine lv_aload_n hx hb dX9_moved_0 rfl (lv_at hl 0 rfl) ?_
  obtain ⟨b101, eb101, hf⟩ := fo_el hf
  refine x_getR C hw fa_X9_10 (Or.inl ⟨_, rfl⟩) ta0 eb101 dX9_moved_1 (fun tb101 => ?_)
  have tb101 : (mT m0) b101 = some (.inl 8) := tb101
  refine lv_iload_n hx hb dX9_moved_4 rfl (lv_at hl 1 rfl) ?_
  obtain ⟨o103, m102, cm102, hf⟩ := b2_el (o := f_X8_houseAt b101 x1 m0) hf
  have hmp := hw.2.2.2.2
  refine x_callVq (As := [.int x1]) (rest := []) C hl.1 hw cb_X9_236 cv_X8_houseAt (k_X8_houseAt hw.2.2.2.2 tb101 cm102) tb101 rfl rfl (by decide) ⟨Nat.le_refl _, Nat.le_refl _⟩ rfl (Nat.le_of_ble_eq_true rfl) dX9_moved_5 (fun H locs hw to103 => ?_)
  have to103 : ∀ b, o103 = some b → (mT m0) b = some (.inl 1) := fun b h => by have q := to103 b h; rw [hmp] at q; exact q
  refine x_astore_nQ (lv' := [(2, va_rf o103), (0, .ref a0), (1, .int x1)]) hx hb dX9_moved_8 rfl hl (by decide) rfl (fun ls hl => ?_)
  refine x_aload_nQ hx hb dX9_moved_9 rfl (lv_at hl 0 rfl) ?_
  cases o103 with
  | none =>
    have hf := oc_n hf
    refine lv_ifnonnullN hx hb dX9_moved_10 ?_
    refine lv_aload_n hx hb dX9_moved_13 rfl (lv_at hl 1 rfl) ?_
    refine lv_iconst hx hb dX9_moved_14 ki_0 ?_
    obtain ⟨r106, m105, cm105, hf⟩ := b2_el (o := f_X9_finding a0 0 m102) hf
    refine x_callVi (As := [.int 0]) (rest := []) C hl.1 hw cb_X9_63 cv_X9_finding (k_X9_finding hw.2.2.2.2 ta0 cm105) ta0 rfl rfl (by decide) ⟨Nat.le_refl _, Nat.le_refl _⟩ rfl (Nat.le_of_ble_eq_true rfl) dX9_moved_15 (fun H locs hw tr106 => ?_)
    refine lv_goto (tgt := 25) hx hb dX9_moved_18 (by decide) ?_
    exact x_retI C hr hk hw  hf (by decide) (by decide) dX9_moved_25
  | some b104 =>
    have hf := oc_s hf
    have tb104 := to103 b104 rfl
    refine lv_ifnonnull (tgt := 21) hx hb dX9_moved_10 (by decide) ?_
    refine lv_aload_n hx hb dX9_moved_21 rfl (lv_at hl 0 rfl) ?_
    refine x_getI C hw fa_X9_286 tb104 dX9_moved_22 ?_
    exact x_retI C hr hk hw  hf (by decide) (by decide) dX9_moved_25
set_option maxHeartbeats 4000000 in
set_option maxRecDepth 100000 in
theorem k_X9_must {l : Launch} {D : va_G} {E : Nat → ClassId} {tU : Nat} {τ : Nat → Option XTy} {a0 : Nat} {x1 : Int32} {x2 : Int32} {m0 mE : XMem} {rE : Int32} (hm : mT m0 = τ) (ta0 : τ a0 = some (.inl 9)) (hf : f_X9_must a0 x1 x2 m0 = some (rE, mE)) : Ct l yX9_must cX9_must 4 ((Option.some FieldType.int)) 6 0 0 D E tU [.ref a0, .int x1, .int x2] m0 (some (.int rE)) mE (mT mE = mT m0 ∧ True) := by
  subst hm
  refine Ct.of (by decide) (Nat.le_of_ble_eq_true rfl) (fun p e s m below meth c ls C hr hk hnm hl hw => ?_)
  have hx := C.1
  have hb := C.2.1
  have hl : lv_has ls 4 [(0, .ref a0), (1, .int x1), (2, .int x2)] := hl
  unfold f_X9_must at hf
  refine lv_aload_n hx hb dX9_must_0 rfl (lv_at hl 0 rfl) ?_
  obtain ⟨b101, eb101, hf⟩ := fo_el hf
  refine x_getR C hw fa_X9_10 (Or.inl ⟨_, rfl⟩) ta0 eb101 dX9_must_1 (fun tb101 => ?_)
  have tb101 : (mT m0) b101 = some (.inl 8) := tb101
  refine lv_iload_n hx hb dX9_must_4 rfl (lv_at hl 1 rfl) ?_
  obtain ⟨o103, m102, cm102, hf⟩ := b2_el (o := f_X8_cellAt b101 x1 m0) hf
  have hmp := hw.2.2.2.2
  refine x_callVq (As := [.int x1]) (rest := []) C hl.1 hw cb_X9_96 cv_X8_cellAt (k_X8_cellAt hw.2.2.2.2 tb101 cm102) tb101 rfl rfl (by decide) ⟨Nat.le_refl _, Nat.le_refl _⟩ rfl (Nat.le_of_ble_eq_true rfl) dX9_must_5 (fun H locs hw to103 => ?_)
  have to103 : ∀ b, o103 = some b → (mT m0) b = some (.inl 0) := fun b h => by have q := to103 b h; rw [hmp] at q; exact q
  refine x_astore_nQ (lv' := [(3, va_rf o103), (0, .ref a0), (1, .int x1), (2, .int x2)]) hx hb dX9_must_8 rfl hl (by decide) rfl (fun ls hl => ?_)
  refine x_aload_nQ hx hb dX9_must_9 rfl (lv_at hl 0 rfl) ?_
  cases o103 with
  | none =>
    have hf := oc_n hf
    refine lv_ifnullN (tgt := 24) hx hb dX9_must_10 (by decide) ?_
    refine lv_aload_n hx hb dX9_must_24 rfl (lv_at hl 1 rfl) ?_
    refine lv_iconst hx hb dX9_must_25 ki_0 ?_
    obtain ⟨r106, m105, cm105, hf⟩ := b2_el (o := f_X9_finding a0 0 m102) hf
    refine x_callVi (As := [.int 0]) (rest := []) C hl.1 hw cb_X9_63 cv_X9_finding (k_X9_finding hw.2.2.2.2 ta0 cm105) ta0 rfl rfl (by decide) ⟨Nat.le_refl _, Nat.le_refl _⟩ rfl (Nat.le_of_ble_eq_true rfl) dX9_must_26 (fun H locs hw tr106 => ?_)
    exact x_retI C hr hk hw  hf (by decide) (by decide) dX9_must_29
  | some b104 =>
    have hf := oc_s hf
    have tb104 := to103 b104 rfl
    refine lv_ifnull hx hb dX9_must_10 ?_
    refine lv_aload_n hx hb dX9_must_13 rfl (lv_at hl 1 rfl) ?_
    obtain ⟨b107, eb107, hf⟩ := fo_el hf
    refine x_getR C hw fa_X9_10 (Or.inl ⟨_, rfl⟩) ta0 eb107 dX9_must_14 (fun tb107 => ?_)
    have tb107 : (mT m0) b107 = some (.inl 8) := tb107
    refine lv_iload_n hx hb dX9_must_17 rfl (lv_at hl 3 rfl) ?_
    obtain ⟨o109, m108, cm108, hf⟩ := b2_el (o := f_X8_lawAt b107 x2 m102) hf
    have hmp := hw.2.2.2.2
    refine x_callVq (As := [.int x2]) (rest := []) C hl.1 hw cb_X9_197 cv_X8_lawAt (k_X8_lawAt hw.2.2.2.2 tb107 cm108) tb107 rfl rfl (by decide) ⟨Nat.le_refl _, Nat.le_refl _⟩ rfl (Nat.le_of_ble_eq_true rfl) dX9_must_18 (fun H locs hw to109 => ?_)
    have to109 : ∀ b, o109 = some b → (mT m0) b = some (.inl 2) := fun b h => by have q := to109 b h; rw [hmp] at q; exact q
    cases o109 with
    | none =>
      have hf := oc_n hf
      refine lv_ifnonnullN hx hb dX9_must_21 ?_
      refine lv_aload_n hx hb dX9_must_24 rfl (lv_at hl 1 rfl) ?_
      refine lv_iconst hx hb dX9_must_25 ki_0 ?_
      obtain ⟨r112, m111, cm111, hf⟩ := b2_el (o := f_X9_finding a0 0 m108) hf
      refine x_callVi (As := [.int 0]) (rest := []) C hl.1 hw cb_X9_63 cv_X9_finding (k_X9_finding hw.2.2.2.2 ta0 cm111) ta0 rfl rfl (by decide) ⟨Nat.le_refl _, Nat.le_refl _⟩ rfl (Nat.le_of_ble_eq_true rfl) dX9_must_26 (fun H locs hw tr112 => ?_)
      exact x_retI C hr hk hw  hf (by decide) (by decide) dX9_must_29
    | some b110 =>
      have hf := oc_s hf
      have tb110 := to109 b110 rfl
      refine lv_ifnonnull (tgt := 30) hx hb dX9_must_21 (by decide) ?_
      refine lv_aload_n hx hb dX9_must_30 rfl (lv_at hl 1 rfl) ?_
      refine lv_aload_n hx hb dX9_must_31 rfl (lv_at hl 0 rfl) ?_
      refine lv_iload_n hx hb dX9_must_32 rfl (lv_at hl 2 rfl) ?_
      refine lv_iload_n hx hb dX9_must_33 rfl (lv_at hl 3 rfl) ?_
      obtain ⟨r114, m113, cm113, hf⟩ := b2_el (o := f_X9_mustOf a0 b104 x1 x2 m108) hf
      refine x_callVi (As := [.ref b104, .int x1, .int x2]) (rest := []) C hl.1 hw cb_X9_307 cv_X9_mustOf (k_X9_mustOf hw.2.2.2.2 ta0 tb104 cm113) ta0 rfl rfl (by decide) ⟨Nat.le_refl _, Nat.le_refl _⟩ rfl (Nat.le_of_ble_eq_true rfl) dX9_must_34 (fun H locs hw tr114 => ?_)
      exact x_retI C hr hk hw  hf (by decide) (by decide) dX9_must_37
set_option maxHeartbeats 4000000 in
set_option maxRecDepth 100000 in
theorem w_X9_need_h65 {p : Program} {l : Launch} {e : Env} {s : State} {m : MethodId} {args : Array Value} {below : List Frame} {meth : Method} {c : Code} {D : va_G} {E : Nat → ClassId} {tU : Nat} {m0 mE : XMem} {rE : Int32} (C : Cx p s m args c cX9_need 7 RX9 D E (Am m0) tU) (hr : meth.sig.returnType = ((Option.some FieldType.int))) (hk : meth.locks = false) (hnm : meth.name = yX9_need.name) {a0 : Nat} {x2 : Int32} {x3 : Int32} {a4 : Nat} {x5 : Int32} (ta0 : mT m0 a0 = some (.inl 9)) (ta4 : mT m0 a4 = some (.inl 0)) {k86 :  XMem → Option (Int32 × XMem)} (hk86 : ∀  (mu : XMem) (H : Heap) (locs : List Loc) (ls : Array Slot), lv_has ls 7 [(0, .ref a0), (2, .int x2), (3, .int x3), (4, .ref a4), (5, .int x5)] → Wd D E (Am m0) s (mT m0) mu H locs →   k86  mu = some (rE, mE) → W p l e (rmN 3 0 0) s m args below meth c H locs 0 0 (MQ below (XQ D E (Am m0) (some (.int rE)) mE (mT mE = mT m0 ∧ True)) args s 0 0 (Am m0)) (F0 m 86 ls [])) : ∀ (n : Nat) (x6 : Int32) (mu : XMem) (H : Heap) (locs : List Loc) (ls : Array Slot), lv_has ls 7 [(0, .ref a0), (2, .int x2), (3, .int x3), (4, .ref a4), (5, .int x5), (6, .int x6)] → Wd D E (Am m0) s (mT m0) mu H locs → f_X9_need_h65 a0 x2 x3 a4 x5 k86 n x6 mu = some (rE, mE) → W p l e (rmN 3 0 0) s m args below meth c H locs 0 0 (MQ below (XQ D E (Am m0) (some (.int rE)) mE (mT mE = mT m0 ∧ True)) args s 0 0 (Am m0)) (F0 m 65 ls []) := by
  have hx := C.1
  have hb := C.2.1
  intro n
  induction n with
  | zero =>
    intros
    rename_i hf
    cases hf
  | succ n ih =>
    intro x6 mu H locs ls hl hw hf
    rw [f_X9_need_h65] at hf
    refine lv_iload hx hb dX9_need_65 (lv_at hl 5 rfl) ?_
    refine lv_iload_n hx hb dX9_need_67 rfl (lv_at hl 2 rfl) ?_
    refine lv_icmp_ge (tgt := 86) hx hb dX9_need_68 (by decide) (fun c => ?_) (fun c => ?_)
    · have hf := ifp hf c
      exact hk86 _ _ _ _ (lv_sub hl [0, 1, 2, 3, 4] rfl) hw hf
    · have hf := ifn hf c
      refine lv_aload_n hx hb dX9_need_71 rfl (lv_at hl 0 rfl) ?_
      obtain ⟨b125, eb125, hf⟩ := fo_el hf
      refine x_getR C hw fa_X9_50 (Or.inl ⟨_, rfl⟩) ta0 eb125 dX9_need_72 (fun tb125 => ?_)
      have tb125 : (mT m0) b125 = some (.inl 0) := tb125
      refine lv_iload hx hb dX9_need_75 (lv_at hl 4 rfl) ?_
      obtain ⟨m126, cm126, hf⟩ := b1_el (o := f_X0_passHour b125 x5 mu) hf
      refine x_callVv (As := [.int x5]) (rest := []) C hl.1 hw cb_X9_310 cv_X0_passHour (k_X0_passHour hw.2.2.2.2 tb125 cm126) tb125 rfl rfl (by decide) ⟨Nat.le_refl _, Nat.le_refl _⟩ rfl (Nat.le_of_ble_eq_true rfl) dX9_need_77 (fun H locs hw tm126 => ?_)
      obtain ⟨x127, ex127⟩ : ∃ z : Int32, z = x6 + 1 := ⟨_, rfl⟩
      have hf := nm_el hf ex127
      refine lv_iinc (v := x127) (lv' := [(6, .int x127), (0, .ref a0), (2, .int x2), (3, .int x3), (4, .ref a4), (5, .int x5)]) hx hb dX9_need_80 hl (k := 5) rfl (by rw [ex127, ki_1]) (by decide) rfl (fun ls hl => ?_)
      refine lv_goto (tgt := 65) hx hb dX9_need_83 (by decide) ?_
      exact ih _ _ _ _ _ (lv_sub hl [1, 2, 3, 4, 5, 0] rfl) hw hf
set_option maxHeartbeats 4000000 in
set_option maxRecDepth 100000 in
theorem w_X9_need_h45 {p : Program} {l : Launch} {e : Env} {s : State} {m : MethodId} {args : Array Value} {below : List Frame} {meth : Method} {c : Code} {D : va_G} {E : Nat → ClassId} {tU : Nat} {m0 mE : XMem} {rE : Int32} (C : Cx p s m args c cX9_need 7 RX9 D E (Am m0) tU) (hr : meth.sig.returnType = ((Option.some FieldType.int))) (hk : meth.locks = false) (hnm : meth.name = yX9_need.name) {a0 : Nat} {x2 : Int32} {x3 : Int32} {a4 : Nat} (ta0 : mT m0 a0 = some (.inl 9)) (ta4 : mT m0 a4 = some (.inl 0)) {k97 : Int32 →  XMem → Option (Int32 × XMem)} {k106 :  XMem → Option (Int32 × XMem)} (hk97 : ∀ (y5 : Int32) (mu : XMem) (H : Heap) (locs : List Loc) (ls : Array Slot), lv_has ls 7 [(5, .int y5)] → Wd D E (Am m0) s (mT m0) mu H locs →   k97 y5 mu = some (rE, mE) → W p l e (rmN 3 0 0) s m args below meth c H locs 0 0 (MQ below (XQ D E (Am m0) (some (.int rE)) mE (mT mE = mT m0 ∧ True)) args s 0 0 (Am m0)) (F0 m 97 ls [])) (hk106 : ∀  (mu : XMem) (H : Heap) (locs : List Loc) (ls : Array Slot), lv_has ls 7 [(0, .ref a0)] → Wd D E (Am m0) s (mT m0) mu H locs →   k106  mu = some (rE, mE) → W p l e (rmN 3 0 0) s m args below meth c H locs 0 0 (MQ below (XQ D E (Am m0) (some (.int rE)) mE (mT mE = mT m0 ∧ True)) args s 0 0 (Am m0)) (F0 m 106 ls [])) : ∀ (n : Nat) (x5 : Int32) (mu : XMem) (H : Heap) (locs : List Loc) (ls : Array Slot), lv_has ls 7 [(0, .ref a0), (2, .int x2), (3, .int x3), (4, .ref a4), (5, .int x5)] → Wd D E (Am m0) s (mT m0) mu H locs → f_X9_need_h45 a0 x2 x3 a4 k97 k106 n x5 mu = some (rE, mE) → W p l e (rmN 3 0 0) s m args below meth c H locs 0 0 (MQ below (XQ D E (Am m0) (some (.int rE)) mE (mT mE = mT m0 ∧ True)) args s 0 0 (Am m0)) (F0 m 45 ls []) := by
  have hx := C.1
  have hb := C.2.1
  intro n
  induction n with
  | zero =>
    intros
    rename_i hf
    cases hf
  | succ n ih =>
    intro x5 mu H locs ls hl hw hf
    rw [f_X9_need_h45] at hf
    refine lv_iload hx hb dX9_need_45 (lv_at hl 4 rfl) ?_
    refine lv_sipush hx hb dX9_need_47 ks_300 ?_
    refine lv_icmp_gt (tgt := 106) hx hb dX9_need_50 (by decide) (fun c => ?_) (fun c => ?_)
    · have hf := ifp hf c
      exact hk106 _ _ _ _ (lv_sub hl [0] rfl) hw hf
    · have hf := ifn hf c
      refine lv_aload_n hx hb dX9_need_53 rfl (lv_at hl 0 rfl) ?_
      obtain ⟨b120, eb120, hf⟩ := fo_el hf
      refine x_getR C hw fa_X9_50 (Or.inl ⟨_, rfl⟩) ta0 eb120 dX9_need_54 (fun tb120 => ?_)
      have tb120 : (mT m0) b120 = some (.inl 0) := tb120
      refine lv_aload hx hb dX9_need_57 (lv_at hl 3 rfl) ?_
      obtain ⟨m121, cm121, hf⟩ := b1_el (o := f_X0_take b120 a4 mu) hf
      refine x_callVv (As := [.ref a4]) (rest := []) C hl.1 hw cb_X9_289 cv_X0_take (k_X0_take hw.2.2.2.2 tb120 ta4 cm121) tb120 rfl rfl (by decide) ⟨Nat.le_refl _, Nat.le_refl _⟩ rfl (Nat.le_of_ble_eq_true rfl) dX9_need_59 (fun H locs hw tm121 => ?_)
      refine lv_iconst hx hb dX9_need_62 ki_0 ?_
      refine lv_istore (lv' := [(6, .int 0), (0, .ref a0), (2, .int x2), (3, .int x3), (4, .ref a4), (5, .int x5)]) hx hb dX9_need_63 hl (by decide) rfl (fun ls hl => ?_)
      refine w_X9_need_h65 C hr hk hnm ta0 ta4 ?_ 2000 _ _ _ _ _ (lv_sub hl [1, 2, 3, 4, 5, 0] rfl) hw hf
      intro m122 H locs ls hl hw hf
      refine lv_aload_n hx hb dX9_need_86 rfl (lv_at hl 0 rfl) ?_
      obtain ⟨b123, eb123, hf⟩ := fo_el hf
      refine x_getR C hw fa_X9_50 (Or.inl ⟨_, rfl⟩) ta0 eb123 dX9_need_87 (fun tb123 => ?_)
      have tb123 : (mT m0) b123 = some (.inl 0) := tb123
      refine x_getI C hw fa_X9_112 tb123 dX9_need_90 ?_
      refine lv_iload_n hx hb dX9_need_93 rfl (lv_at hl 1 rfl) ?_
      refine lv_icmp_lt (tgt := 100) hx hb dX9_need_94 (by decide) (fun c => ?_) (fun c => ?_)
      · have hf := ifp hf c
        obtain ⟨x124, ex124⟩ : ∃ z : Int32, z = x5 + 1 := ⟨_, rfl⟩
        have hf := nm_el hf ex124
        refine lv_iinc (v := x124) (lv' := [(5, .int x124), (0, .ref a0), (2, .int x2), (3, .int x3), (4, .ref a4)]) hx hb dX9_need_100 hl (k := 4) rfl (by rw [ex124, ki_1]) (by decide) rfl (fun ls hl => ?_)
        refine lv_goto (tgt := 45) hx hb dX9_need_103 (by decide) ?_
        exact ih _ _ _ _ _ (lv_sub hl [1, 2, 3, 4, 0] rfl) hw hf
      · have hf := ifn hf c
        exact hk97 _ _ _ _ _ (lv_sub hl [4] rfl) hw hf
set_option maxHeartbeats 4000000 in
set_option maxRecDepth 100000 in
theorem k_X9_need {l : Launch} {D : va_G} {E : Nat → ClassId} {tU : Nat} {τ : Nat → Option XTy} {a0 : Nat} {x1 : Int32} {x2 : Int32} {x3 : Int32} {m0 mE : XMem} {rE : Int32} (hm : mT m0 = τ) (ta0 : τ a0 = some (.inl 9)) (hf : f_X9_need a0 x1 x2 x3 m0 = some (rE, mE)) : Ct l yX9_need cX9_need 7 ((Option.some FieldType.int)) 3 0 0 D E tU [.ref a0, .int x1, .int x2, .int x3] m0 (some (.int rE)) mE (mT mE = mT m0 ∧ True) := by
  subst hm
  refine Ct.of (by decide) (Nat.le_of_ble_eq_true rfl) (fun p e s m below meth c ls C hr hk hnm hl hw => ?_)
  have hx := C.1
  have hb := C.2.1
  have hl : lv_has ls 7 [(0, .ref a0), (1, .int x1), (2, .int x2), (3, .int x3)] := hl
  unfold f_X9_need at hf
  refine lv_aload_n hx hb dX9_need_0 rfl (lv_at hl 0 rfl) ?_
  obtain ⟨b101, eb101, hf⟩ := fo_el hf
  refine x_getR C hw fa_X9_10 (Or.inl ⟨_, rfl⟩) ta0 eb101 dX9_need_1 (fun tb101 => ?_)
  have tb101 : (mT m0) b101 = some (.inl 8) := tb101
  refine lv_iload_n hx hb dX9_need_4 rfl (lv_at hl 1 rfl) ?_
  obtain ⟨o103, m102, cm102, hf⟩ := b2_el (o := f_X8_cellAt b101 x1 m0) hf
  have hmp := hw.2.2.2.2
  refine x_callVq (As := [.int x1]) (rest := []) C hl.1 hw cb_X9_96 cv_X8_cellAt (k_X8_cellAt hw.2.2.2.2 tb101 cm102) tb101 rfl rfl (by decide) ⟨Nat.le_refl _, Nat.le_refl _⟩ rfl (Nat.le_of_ble_eq_true rfl) dX9_need_5 (fun H locs hw to103 => ?_)
  have to103 : ∀ b, o103 = some b → (mT m0) b = some (.inl 0) := fun b h => by have q := to103 b h; rw [hmp] at q; exact q
  refine x_astoreQ (lv' := [(4, va_rf o103), (0, .ref a0), (1, .int x1), (2, .int x2), (3, .int x3)]) hx hb dX9_need_8 hl (by decide) rfl (fun ls hl => ?_)
  refine x_aloadQ hx hb dX9_need_10 (lv_at hl 0 rfl) ?_
  cases o103 with
  | none =>
    have hf := oc_n hf
    refine lv_ifnullN (tgt := 36) hx hb dX9_need_12 (by decide) ?_
    refine lv_aload_n hx hb dX9_need_36 rfl (lv_at hl 1 rfl) ?_
    refine lv_iconst hx hb dX9_need_37 ki_0 ?_
    obtain ⟨r106, m105, cm105, hf⟩ := b2_el (o := f_X9_finding a0 0 m102) hf
    refine x_callVi (As := [.int 0]) (rest := []) C hl.1 hw cb_X9_63 cv_X9_finding (k_X9_finding hw.2.2.2.2 ta0 cm105) ta0 rfl rfl (by decide) ⟨Nat.le_refl _, Nat.le_refl _⟩ rfl (Nat.le_of_ble_eq_true rfl) dX9_need_38 (fun H locs hw tr106 => ?_)
    exact x_retI C hr hk hw  hf (by decide) (by decide) dX9_need_41
  | some b104 =>
    have hf := oc_s hf
    have tb104 := to103 b104 rfl
    refine lv_ifnull hx hb dX9_need_12 ?_
    refine lv_iload_n hx hb dX9_need_15 rfl (lv_at hl 3 rfl) ?_
    refine lv_iconst hx hb dX9_need_16 ki_0 ?_
    refine lv_ldcw hx hb C.2.2.2.1 (C.2.2.2.2.1 _ ki_X9_272) dX9_need_17 ?_
    obtain ⟨r108, m107, cm107, hf⟩ := b2_el (o := f_X9_within x2 0 999999 m102) hf
    refine x_callSi (As := [.int x2, .int 0, .int 999999]) (rest := []) C hl.1 hw cb_X9_59 cs_X9_within (k_X9_within hw.2.2.2.2  cm107) rfl (by decide) ⟨Nat.le_refl _, Nat.le_refl _⟩ rfl (Nat.le_of_ble_eq_true rfl) dX9_need_20 (fun H locs hw tr108 => ?_)
    refine lv_if_eq (tgt := 36) hx hb dX9_need_23 (by decide) (fun c => ?_) (fun c => ?_)
    · have hf := ifp hf c
      refine lv_aload_n hx hb dX9_need_36 rfl (lv_at hl 1 rfl) ?_
      refine lv_iconst hx hb dX9_need_37 ki_0 ?_
      obtain ⟨r110, m109, cm109, hf⟩ := b2_el (o := f_X9_finding a0 0 m107) hf
      refine x_callVi (As := [.int 0]) (rest := []) C hl.1 hw cb_X9_63 cv_X9_finding (k_X9_finding hw.2.2.2.2 ta0 cm109) ta0 rfl rfl (by decide) ⟨Nat.le_refl _, Nat.le_refl _⟩ rfl (Nat.le_of_ble_eq_true rfl) dX9_need_38 (fun H locs hw tr110 => ?_)
      exact x_retI C hr hk hw  hf (by decide) (by decide) dX9_need_41
    · have hf := ifn hf c
      refine lv_iload_n hx hb dX9_need_26 rfl (lv_at hl 4 rfl) ?_
      refine lv_iconst hx hb dX9_need_27 ki_1 ?_
      refine lv_bipush hx hb dX9_need_28 kb_20 ?_
      obtain ⟨r112, m111, cm111, hf⟩ := b2_el (o := f_X9_within x3 1 20 m107) hf
      refine x_callSi (As := [.int x3, .int 1, .int 20]) (rest := []) C hl.1 hw cb_X9_59 cs_X9_within (k_X9_within hw.2.2.2.2  cm111) rfl (by decide) ⟨Nat.le_refl _, Nat.le_refl _⟩ rfl (Nat.le_of_ble_eq_true rfl) dX9_need_30 (fun H locs hw tr112 => ?_)
      refine lv_if_ne (tgt := 42) hx hb dX9_need_33 (by decide) (fun c => ?_) (fun c => ?_)
      · have hf := ifn hf c
        refine lv_iconst hx hb dX9_need_42 ki_0 ?_
        refine lv_istore (lv' := [(5, .int 0), (4, .ref b104), (0, .ref a0), (1, .int x1), (2, .int x2), (3, .int x3)]) hx hb dX9_need_43 hl (by decide) rfl (fun ls hl => ?_)
        refine w_X9_need_h45 C hr hk hnm ta0 tb104 ?_ ?_ 2000 _ _ _ _ _ (lv_sub hl [2, 4, 5, 1, 0] rfl) hw hf
        · intro x114 m113 H locs ls hl hw hf
          refine lv_iload hx hb dX9_need_97 (lv_at hl 0 rfl) ?_
          exact x_retI C hr hk hw  hf (by decide) (by decide) dX9_need_99
        · intro m115 H locs ls hl hw hf
          refine lv_aload_n hx hb dX9_need_106 rfl (lv_at hl 0 rfl) ?_
          refine lv_iconst hx hb dX9_need_107 ki_3 ?_
          obtain ⟨r117, m116, cm116, hf⟩ := b2_el (o := f_X9_finding a0 3 m115) hf
          refine x_callVi (As := [.int 3]) (rest := []) C hl.1 hw cb_X9_63 cv_X9_finding (k_X9_finding hw.2.2.2.2 ta0 cm116) ta0 rfl rfl (by decide) ⟨Nat.le_refl _, Nat.le_refl _⟩ rfl (Nat.le_of_ble_eq_true rfl) dX9_need_108 (fun H locs hw tr117 => ?_)
          exact x_retI C hr hk hw  hf (by decide) (by decide) dX9_need_111
      · have hf := ifp hf c
        refine lv_aload_n hx hb dX9_need_36 rfl (lv_at hl 1 rfl) ?_
        refine lv_iconst hx hb dX9_need_37 ki_0 ?_
        obtain ⟨r119, m118, cm118, hf⟩ := b2_el (o := f_X9_finding a0 0 m111) hf
        refine x_callVi (As := [.int 0]) (rest := []) C hl.1 hw cb_X9_63 cv_X9_finding (k_X9_finding hw.2.2.2.2 ta0 cm118) ta0 rfl rfl (by decide) ⟨Nat.le_refl _, Nat.le_refl _⟩ rfl (Nat.le_of_ble_eq_true rfl) dX9_need_38 (fun H locs hw tr119 => ?_)
        exact x_retI C hr hk hw  hf (by decide) (by decide) dX9_need_41
set_option maxHeartbeats 4000000 in
set_option maxRecDepth 100000 in
theorem w_X9_night_h49 {p : Program} {l : Launch} {e : Env} {s : State} {m : MethodId} {args : Array Value} {below : List Frame} {meth : Method} {c : Code} {D : va_G} {E : Nat → ClassId} {tU : Nat} {m0 mE : XMem} {rE : Int32} (C : Cx p s m args c cX9_night 5 RX9 D E (Am m0) tU) (hr : meth.sig.returnType = ((Option.some FieldType.int))) (hk : meth.locks = false) (hnm : meth.name = yX9_night.name) {a0 : Nat} {x1 : Int32} {x2 : Int32} (ta0 : mT m0 a0 = some (.inl 9)) {k68 : Int32 →  XMem → Option (Int32 × XMem)} {k106 :  XMem → Option (Int32 × XMem)} (hk68 : ∀ (y4 : Int32) (mu : XMem) (H : Heap) (locs : List Loc) (ls : Array Slot), lv_has ls 5 [(4, .int y4)] → Wd D E (Am m0) s (mT m0) mu H locs →   k68 y4 mu = some (rE, mE) → W p l e (rmN 6 0 0) s m args below meth c H locs 0 0 (MQ below (XQ D E (Am m0) (some (.int rE)) mE (mT mE = mT m0 ∧ True)) args s 0 0 (Am m0)) (F0 m 68 ls [])) (hk106 : ∀  (mu : XMem) (H : Heap) (locs : List Loc) (ls : Array Slot), lv_has ls 5 [(0, .ref a0)] → Wd D E (Am m0) s (mT m0) mu H locs →   k106  mu = some (rE, mE) → W p l e (rmN 6 0 0) s m args below meth c H locs 0 0 (MQ below (XQ D E (Am m0) (some (.int rE)) mE (mT mE = mT m0 ∧ True)) args s 0 0 (Am m0)) (F0 m 106 ls [])) : ∀ (n : Nat) (x4 : Int32) (mu : XMem) (H : Heap) (locs : List Loc) (ls : Array Slot), lv_has ls 5 [(0, .ref a0), (1, .int x1), (2, .int x2), (4, .int x4)] → Wd D E (Am m0) s (mT m0) mu H locs → f_X9_night_h49 a0 x1 x2 k68 k106 n x4 mu = some (rE, mE) → W p l e (rmN 6 0 0) s m args below meth c H locs 0 0 (MQ below (XQ D E (Am m0) (some (.int rE)) mE (mT mE = mT m0 ∧ True)) args s 0 0 (Am m0)) (F0 m 49 ls []) := by
  have hx := C.1
  have hb := C.2.1
  intro n
  induction n with
  | zero =>
    intros
    rename_i hf
    cases hf
  | succ n ih =>
    intro x4 mu H locs ls hl hw hf
    rw [f_X9_night_h49] at hf
    refine lv_iload hx hb dX9_night_49 (lv_at hl 3 rfl) ?_
    refine lv_sipush hx hb dX9_night_51 ks_200 ?_
    refine lv_icmp_gt (tgt := 106) hx hb dX9_night_54 (by decide) (fun c => ?_) (fun c => ?_)
    · have hf := ifp hf c
      exact hk106 _ _ _ _ (lv_sub hl [0] rfl) hw hf
    · have hf := ifn hf c
      refine lv_aload_n hx hb dX9_night_57 rfl (lv_at hl 0 rfl) ?_
      obtain ⟨b120, eb120, hf⟩ := fo_el hf
      refine x_getR C hw fa_X9_50 (Or.inl ⟨_, rfl⟩) ta0 eb120 dX9_night_58 (fun tb120 => ?_)
      have tb120 : (mT m0) b120 = some (.inl 0) := tb120
      obtain ⟨r122, m121, cm121, hf⟩ := b2_el (o := f_X0_thermometer b120 mu) hf
      refine x_callVi (As := []) (rest := []) C hl.1 hw cb_X9_122 cv_X0_thermometer (k_X0_thermometer hw.2.2.2.2 tb120 cm121) tb120 rfl rfl (by decide) ⟨Nat.le_refl _, Nat.le_refl _⟩ rfl (Nat.le_of_ble_eq_true rfl) dX9_night_61 (fun H locs hw tr122 => ?_)
      refine lv_iload_n hx hb dX9_night_64 rfl (lv_at hl 2 rfl) ?_
      refine lv_icmp_gt (tgt := 71) hx hb dX9_night_65 (by decide) (fun c => ?_) (fun c => ?_)
      · have hf := ifp hf c
        refine lv_aload_n hx hb dX9_night_71 rfl (lv_at hl 0 rfl) ?_
        obtain ⟨b123, eb123, hf⟩ := fo_el hf
        refine x_getR C hw fa_X9_10 (Or.inl ⟨_, rfl⟩) ta0 eb123 dX9_night_72 (fun tb123 => ?_)
        have tb123 : (mT m0) b123 = some (.inl 8) := tb123
        refine lv_aload_n hx hb dX9_night_75 rfl (lv_at hl 0 rfl) ?_
        obtain ⟨b124, eb124, hf⟩ := fo_el hf
        refine x_getR C hw fa_X9_50 (Or.inl ⟨_, rfl⟩) ta0 eb124 dX9_night_76 (fun tb124 => ?_)
        have tb124 : (mT m0) b124 = some (.inl 0) := tb124
        refine lv_iload_n hx hb dX9_night_79 rfl (lv_at hl 1 rfl) ?_
        refine lv_aload_n hx hb dX9_night_80 rfl (lv_at hl 0 rfl) ?_
        obtain ⟨b125, eb125, hf⟩ := fo_el hf
        refine x_getR C hw fa_X9_10 (Or.inl ⟨_, rfl⟩) ta0 eb125 dX9_night_81 (fun tb125 => ?_)
        have tb125 : (mT m0) b125 = some (.inl 8) := tb125
        refine x_getI C hw fa_X9_194 tb125 dX9_night_84 ?_
        refine lv_aload_n hx hb dX9_night_87 rfl (lv_at hl 0 rfl) ?_
        obtain ⟨b126, eb126, hf⟩ := fo_el hf
        refine x_getR C hw fa_X9_10 (Or.inl ⟨_, rfl⟩) ta0 eb126 dX9_night_88 (fun tb126 => ?_)
        have tb126 : (mT m0) b126 = some (.inl 8) := tb126
        refine x_getI C hw fa_X9_106 tb126 dX9_night_91 ?_
        refine lv_iload hx hb dX9_night_94 (lv_at hl 3 rfl) ?_
        refine lv_iadd hx hb dX9_night_96 ?_
        obtain ⟨m127, cm127, hf⟩ := b1_el (o := f_X8_warm b123 b124 x1 (mI m121 b125 4) ((mI m121 b126 0) + x4) m121) hf
        refine x_callVv (As := [.ref b124, .int x1, .int (mI m121 b125 4), .int ((mI m121 b126 0) + x4)]) (rest := []) C hl.1 hw cb_X9_297 cv_X8_warm (k_X8_warm hw.2.2.2.2 tb123 tb124 cm127) tb123 rfl rfl (by decide) ⟨Nat.le_refl _, Nat.le_refl _⟩ rfl (Nat.le_of_ble_eq_true rfl) dX9_night_97 (fun H locs hw tm127 => ?_)
        obtain ⟨x128, ex128⟩ : ∃ z : Int32, z = x4 + 1 := ⟨_, rfl⟩
        have hf := nm_el hf ex128
        refine lv_iinc (v := x128) (lv' := [(4, .int x128), (0, .ref a0), (1, .int x1), (2, .int x2)]) hx hb dX9_night_100 hl (k := 3) rfl (by rw [ex128, ki_1]) (by decide) rfl (fun ls hl => ?_)
        refine lv_goto (tgt := 49) hx hb dX9_night_103 (by decide) ?_
        exact ih _ _ _ _ _ (lv_sub hl [1, 2, 3, 0] rfl) hw hf
      · have hf := ifn hf c
        exact hk68 _ _ _ _ _ (lv_sub hl [3] rfl) hw hf
set_option maxHeartbeats 4000000 in
set_option maxRecDepth 100000 in
theorem k_X9_night {l : Launch} {D : va_G} {E : Nat → ClassId} {tU : Nat} {τ : Nat → Option XTy} {a0 : Nat} {x1 : Int32} {x2 : Int32} {m0 mE : XMem} {rE : Int32} (hm : mT m0 = τ) (ta0 : τ a0 = some (.inl 9)) (hf : f_X9_night a0 x1 x2 m0 = some (rE, mE)) : Ct l yX9_night cX9_night 5 ((Option.some FieldType.int)) 6 0 0 D E tU [.ref a0, .int x1, .int x2] m0 (some (.int rE)) mE (mT mE = mT m0 ∧ True) := by
  subst hm
  refine Ct.of (by decide) (Nat.le_of_ble_eq_true rfl) (fun p e s m below meth c ls C hr hk hnm hl hw => ?_)
  have hx := C.1
  have hb := C.2.1
  have hl : lv_has ls 5 [(0, .ref a0), (1, .int x1), (2, .int x2)] := hl
  unfold f_X9_night at hf
  refine lv_aload_n hx hb dX9_night_0 rfl (lv_at hl 0 rfl) ?_
  obtain ⟨b101, eb101, hf⟩ := fo_el hf
  refine x_getR C hw fa_X9_10 (Or.inl ⟨_, rfl⟩) ta0 eb101 dX9_night_1 (fun tb101 => ?_)
  have tb101 : (mT m0) b101 = some (.inl 8) := tb101
  refine lv_iload_n hx hb dX9_night_4 rfl (lv_at hl 1 rfl) ?_
  obtain ⟨o103, m102, cm102, hf⟩ := b2_el (o := f_X8_cellAt b101 x1 m0) hf
  have hmp := hw.2.2.2.2
  refine x_callVq (As := [.int x1]) (rest := []) C hl.1 hw cb_X9_96 cv_X8_cellAt (k_X8_cellAt hw.2.2.2.2 tb101 cm102) tb101 rfl rfl (by decide) ⟨Nat.le_refl _, Nat.le_refl _⟩ rfl (Nat.le_of_ble_eq_true rfl) dX9_night_5 (fun H locs hw to103 => ?_)
  have to103 : ∀ b, o103 = some b → (mT m0) b = some (.inl 0) := fun b h => by have q := to103 b h; rw [hmp] at q; exact q
  refine x_astore_nQ (lv' := [(3, va_rf o103), (0, .ref a0), (1, .int x1), (2, .int x2)]) hx hb dX9_night_8 rfl hl (by decide) rfl (fun ls hl => ?_)
  refine x_aload_nQ hx hb dX9_night_9 rfl (lv_at hl 0 rfl) ?_
  cases o103 with
  | none =>
    have hf := oc_n hf
    refine lv_ifnullN (tgt := 24) hx hb dX9_night_10 (by decide) ?_
    refine lv_aload_n hx hb dX9_night_24 rfl (lv_at hl 1 rfl) ?_
    refine lv_iconst hx hb dX9_night_25 ki_0 ?_
    obtain ⟨r106, m105, cm105, hf⟩ := b2_el (o := f_X9_finding a0 0 m102) hf
    refine x_callVi (As := [.int 0]) (rest := []) C hl.1 hw cb_X9_63 cv_X9_finding (k_X9_finding hw.2.2.2.2 ta0 cm105) ta0 rfl rfl (by decide) ⟨Nat.le_refl _, Nat.le_refl _⟩ rfl (Nat.le_of_ble_eq_true rfl) dX9_night_26 (fun H locs hw tr106 => ?_)
    exact x_retI C hr hk hw  hf (by decide) (by decide) dX9_night_29
  | some b104 =>
    have hf := oc_s hf
    have tb104 := to103 b104 rfl
    refine lv_ifnull hx hb dX9_night_10 ?_
    refine lv_iload_n hx hb dX9_night_13 rfl (lv_at hl 3 rfl) ?_
    refine lv_iconst hx hb dX9_night_14 ki_0 ?_
    refine lv_ldcw hx hb C.2.2.2.1 (C.2.2.2.2.1 _ ki_X9_272) dX9_night_15 ?_
    obtain ⟨r108, m107, cm107, hf⟩ := b2_el (o := f_X9_within x2 0 999999 m102) hf
    refine x_callSi (As := [.int x2, .int 0, .int 999999]) (rest := []) C hl.1 hw cb_X9_59 cs_X9_within (k_X9_within hw.2.2.2.2  cm107) rfl (by decide) ⟨Nat.le_refl _, Nat.le_refl _⟩ rfl (Nat.le_of_ble_eq_true rfl) dX9_night_18 (fun H locs hw tr108 => ?_)
    refine lv_if_ne (tgt := 30) hx hb dX9_night_21 (by decide) (fun c => ?_) (fun c => ?_)
    · have hf := ifn hf c
      refine lv_aload_n hx hb dX9_night_30 rfl (lv_at hl 1 rfl) ?_
      obtain ⟨b109, eb109, hf⟩ := fo_el hf
      refine x_getR C hw fa_X9_50 (Or.inl ⟨_, rfl⟩) ta0 eb109 dX9_night_31 (fun tb109 => ?_)
      have tb109 : (mT m0) b109 = some (.inl 0) := tb109
      refine lv_aload_n hx hb dX9_night_34 rfl (lv_at hl 0 rfl) ?_
      obtain ⟨m110, cm110, hf⟩ := b1_el (o := f_X0_take b109 b104 m107) hf
      refine x_callVv (As := [.ref b104]) (rest := []) C hl.1 hw cb_X9_289 cv_X0_take (k_X0_take hw.2.2.2.2 tb109 tb104 cm110) tb109 rfl rfl (by decide) ⟨Nat.le_refl _, Nat.le_refl _⟩ rfl (Nat.le_of_ble_eq_true rfl) dX9_night_35 (fun H locs hw tm110 => ?_)
      refine lv_aload_n hx hb dX9_night_38 rfl (lv_at hl 1 rfl) ?_
      obtain ⟨b111, eb111, hf⟩ := fo_el hf
      refine x_getR C hw fa_X9_50 (Or.inl ⟨_, rfl⟩) ta0 eb111 dX9_night_39 (fun tb111 => ?_)
      have tb111 : (mT m0) b111 = some (.inl 0) := tb111
      refine lv_iconst hx hb dX9_night_42 ki_0 ?_
      refine x_putI C hw fa_X9_84 tb111 dX9_night_43 (fun m112 H locs em112 hw => ?_)
      have hf := nm_el hf em112
      refine lv_iconst hx hb dX9_night_46 ki_0 ?_
      refine lv_istore (lv' := [(4, .int 0), (3, .ref b104), (0, .ref a0), (1, .int x1), (2, .int x2)]) hx hb dX9_night_47 hl (by decide) rfl (fun ls hl => ?_)
      refine w_X9_night_h49 C hr hk hnm ta0 ?_ ?_ 2000 _ _ _ _ _ (lv_sub hl [2, 3, 4, 0] rfl) hw hf
      · intro x114 m113 H locs ls hl hw hf
        refine lv_iload hx hb dX9_night_68 (lv_at hl 0 rfl) ?_
        exact x_retI C hr hk hw  hf (by decide) (by decide) dX9_night_70
      · intro m115 H locs ls hl hw hf
        refine lv_aload_n hx hb dX9_night_106 rfl (lv_at hl 0 rfl) ?_
        refine lv_iconst hx hb dX9_night_107 ki_3 ?_
        obtain ⟨r117, m116, cm116, hf⟩ := b2_el (o := f_X9_finding a0 3 m115) hf
        refine x_callVi (As := [.int 3]) (rest := []) C hl.1 hw cb_X9_63 cv_X9_finding (k_X9_finding hw.2.2.2.2 ta0 cm116) ta0 rfl rfl (by decide) ⟨Nat.le_refl _, Nat.le_refl _⟩ rfl (Nat.le_of_ble_eq_true rfl) dX9_night_108 (fun H locs hw tr117 => ?_)
        exact x_retI C hr hk hw  hf (by decide) (by decide) dX9_night_111
    · have hf := ifp hf c
      refine lv_aload_n hx hb dX9_night_24 rfl (lv_at hl 1 rfl) ?_
      refine lv_iconst hx hb dX9_night_25 ki_0 ?_
      obtain ⟨r119, m118, cm118, hf⟩ := b2_el (o := f_X9_finding a0 0 m107) hf
      refine x_callVi (As := [.int 0]) (rest := []) C hl.1 hw cb_X9_63 cv_X9_finding (k_X9_finding hw.2.2.2.2 ta0 cm118) ta0 rfl rfl (by decide) ⟨Nat.le_refl _, Nat.le_refl _⟩ rfl (Nat.le_of_ble_eq_true rfl) dX9_night_26 (fun H locs hw tr119 => ?_)
      exact x_retI C hr hk hw  hf (by decide) (by decide) dX9_night_29
