set_option maxHeartbeats 4000000 in
set_option maxRecDepth 100000 in
theorem k_X9_of {l : Launch} {D : va_G} {E : Nat → ClassId} {tU : Nat} {τ : Nat → Option XTy} {a0 : Nat} {x1 : Int32} {x2 : Int32} {m0 mE : XMem} {rE : Int32} (hm : mT m0 = τ) (ta0 : τ a0 = some (.inl 9)) (hf : f_X9_of a0 x1 x2 m0 = some (rE, mE)) : Ct l yX9_of cX9_of 4 ((Option.some FieldType.int)) 3 0 0 D E tU [.ref a0, .int x1, .int x2] m0 (some (.int rE)) mE (mT mE = mT m0 ∧ True) := by
  subst hm
  refine Ct.of (by decide) (Nat.le_of_ble_eq_true rfl) (fun p e s m below meth c ls C hr hk hnm hl hw => ?_)
  have hx := C.1
  have hb := C.2.1
  have hl : lv_has ls 4 [(0, .ref a0), (1, .int x1), (2, .int x2)] := hl
  unfold f_X9_of at hf
  refine lv_aload_n hx hb dX9_of_0 rfl (lv_at hl 0 rfl) ?_
  obtain ⟨b101, eb101, hf⟩ := fo_el hf
  refine x_getR C hw fa_X9_10 (Or.inl ⟨_, rfl⟩) ta0 eb101 dX9_of_1 (fun tb101 => ?_)
  have tb101 : (mT m0) b101 = some (.inl 8) := tb101
  refine lv_iload_n hx hb dX9_of_4 rfl (lv_at hl 1 rfl) ?_
  obtain ⟨o103, m102, cm102, hf⟩ := b2_el (o := f_X8_cellAt b101 x1 m0) hf
  have hmp := hw.2.2.2.2
  refine x_callVq (As := [.int x1]) (rest := []) C hl.1 hw cb_X9_96 cv_X8_cellAt (k_X8_cellAt hw.2.2.2.2 tb101 cm102) tb101 rfl rfl (by decide) ⟨Nat.le_refl _, Nat.le_refl _⟩ rfl (Nat.le_of_ble_eq_true rfl) dX9_of_5 (fun H locs hw to103 => ?_)
  have to103 : ∀ b, o103 = some b → (mT m0) b = some (.inl 0) := fun b h => by have q := to103 b h; rw [hmp] at q; exact q
  refine x_astore_nQ (lv' := [(3, va_rf o103), (0, .ref a0), (1, .int x1), (2, .int x2)]) hx hb dX9_of_8 rfl hl (by decide) rfl (fun ls hl => ?_)
  refine x_aload_nQ hx hb dX9_of_9 rfl (lv_at hl 0 rfl) ?_
  cases o103 with
  | none =>
    have hf := oc_n hf
    refine lv_ifnonnullN hx hb dX9_of_10 ?_
    refine lv_aload_n hx hb dX9_of_13 rfl (lv_at hl 1 rfl) ?_
    refine lv_iconst hx hb dX9_of_14 ki_0 ?_
    obtain ⟨r106, m105, cm105, hf⟩ := b2_el (o := f_X9_finding a0 0 m102) hf
    refine x_callVi (As := [.int 0]) (rest := []) C hl.1 hw cb_X9_63 cv_X9_finding (k_X9_finding hw.2.2.2.2 ta0 cm105) ta0 rfl rfl (by decide) ⟨Nat.le_refl _, Nat.le_refl _⟩ rfl (Nat.le_of_ble_eq_true rfl) dX9_of_15 (fun H locs hw tr106 => ?_)
    exact x_retI C hr hk hw  hf (by decide) (by decide) dX9_of_18
  | some b104 =>
    have hf := oc_s hf
    have tb104 := to103 b104 rfl
    refine lv_ifnonnull (tgt := 19) hx hb dX9_of_10 (by decide) ?_
    refine lv_iload_n hx hb dX9_of_19 rfl (lv_at hl 3 rfl) ?_
    by_cases c107 : x2 = 0
    · have hf := ifp hf c107
      refine lv_tableIn (off := 56) (tgt := 76) hx hb dX9_of_20 (by rw [c107]; decide) (by rw [c107]; decide) (by rw [c107]; try rfl) (by decide) ?_
      refine lv_aload_n hx hb dX9_of_76 rfl (lv_at hl 0 rfl) ?_
      refine x_getI C hw fa_X9_74 tb104 dX9_of_77 ?_
      exact x_retI C hr hk hw  hf (by decide) (by decide) dX9_of_80
    · have hf := ifn hf c107
      by_cases c108 : x2 = 1
      · have hf := ifp hf c108
        refine lv_tableIn (off := 61) (tgt := 81) hx hb dX9_of_20 (by rw [c108]; decide) (by rw [c108]; decide) (by rw [c108]; try rfl) (by decide) ?_
        refine lv_aload_n hx hb dX9_of_81 rfl (lv_at hl 0 rfl) ?_
        refine x_getI C hw fa_X9_84 tb104 dX9_of_82 ?_
        exact x_retI C hr hk hw  hf (by decide) (by decide) dX9_of_85
      · have hf := ifn hf c108
        by_cases c109 : x2 = 2
        · have hf := ifp hf c109
          refine lv_tableIn (off := 66) (tgt := 86) hx hb dX9_of_20 (by rw [c109]; decide) (by rw [c109]; decide) (by rw [c109]; try rfl) (by decide) ?_
          refine lv_aload_n hx hb dX9_of_86 rfl (lv_at hl 0 rfl) ?_
          refine x_getI C hw fa_X9_81 tb104 dX9_of_87 ?_
          exact x_retI C hr hk hw  hf (by decide) (by decide) dX9_of_90
        · have hf := ifn hf c109
          by_cases c110 : x2 = 3
          · have hf := ifp hf c110
            refine lv_tableIn (off := 71) (tgt := 91) hx hb dX9_of_20 (by rw [c110]; decide) (by rw [c110]; decide) (by rw [c110]; try rfl) (by decide) ?_
            refine lv_aload_n hx hb dX9_of_91 rfl (lv_at hl 0 rfl) ?_
            refine x_getI C hw fa_X9_78 tb104 dX9_of_92 ?_
            exact x_retI C hr hk hw  hf (by decide) (by decide) dX9_of_95
          · have hf := ifn hf c110
            by_cases c111 : x2 = 4
            · have hf := ifp hf c111
              refine lv_tableIn (off := 76) (tgt := 96) hx hb dX9_of_20 (by rw [c111]; decide) (by rw [c111]; decide) (by rw [c111]; try rfl) (by decide) ?_
              refine lv_aload_n hx hb dX9_of_96 rfl (lv_at hl 0 rfl) ?_
              refine x_getI C hw fa_X9_87 tb104 dX9_of_97 ?_
              exact x_retI C hr hk hw  hf (by decide) (by decide) dX9_of_100
            · have hf := ifn hf c111
              by_cases c112 : x2 = 5
              · have hf := ifp hf c112
                refine lv_tableIn (off := 81) (tgt := 101) hx hb dX9_of_20 (by rw [c112]; decide) (by rw [c112]; decide) (by rw [c112]; try rfl) (by decide) ?_
                refine lv_aload_n hx hb dX9_of_101 rfl (lv_at hl 0 rfl) ?_
                refine x_getI C hw fa_X9_90 tb104 dX9_of_102 ?_
                exact x_retI C hr hk hw  hf (by decide) (by decide) dX9_of_105
              · have hf := ifn hf c112
                by_cases c113 : x2 = 6
                · have hf := ifp hf c113
                  refine lv_tableIn (off := 86) (tgt := 106) hx hb dX9_of_20 (by rw [c113]; decide) (by rw [c113]; decide) (by rw [c113]; try rfl) (by decide) ?_
                  refine lv_aload_n hx hb dX9_of_106 rfl (lv_at hl 0 rfl) ?_
                  refine x_getI C hw fa_X9_112 tb104 dX9_of_107 ?_
                  exact x_retI C hr hk hw  hf (by decide) (by decide) dX9_of_110
                · have hf := ifn hf c113
                  by_cases c114 : x2 = 7
                  · have hf := ifp hf c114
                    refine lv_tableIn (off := 91) (tgt := 111) hx hb dX9_of_20 (by rw [c114]; decide) (by rw [c114]; decide) (by rw [c114]; try rfl) (by decide) ?_
                    refine lv_aload_n hx hb dX9_of_111 rfl (lv_at hl 0 rfl) ?_
                    refine x_getI C hw fa_X9_115 tb104 dX9_of_112 ?_
                    exact x_retI C hr hk hw  hf (by decide) (by decide) dX9_of_115
                  · have hf := ifn hf c114
                    by_cases c115 : x2 = 8
                    · have hf := ifp hf c115
                      refine lv_tableIn (off := 96) (tgt := 116) hx hb dX9_of_20 (by rw [c115]; decide) (by rw [c115]; decide) (by rw [c115]; try rfl) (by decide) ?_
                      refine lv_aload_n hx hb dX9_of_116 rfl (lv_at hl 0 rfl) ?_
                      obtain ⟨r117, m116, cm116, hf⟩ := b2_el (o := f_X0_warmth b104 m102) hf
                      refine x_callVi (As := []) (rest := []) C hl.1 hw cb_X9_118 cv_X0_warmth (k_X0_warmth hw.2.2.2.2 tb104 cm116) tb104 rfl rfl (by decide) ⟨Nat.le_refl _, Nat.le_refl _⟩ rfl (Nat.le_of_ble_eq_true rfl) dX9_of_117 (fun H locs hw tr117 => ?_)
                      exact x_retI C hr hk hw  hf (by decide) (by decide) dX9_of_120
                    · have hf := ifn hf c115
                      by_cases c118 : x2 = 9
                      · have hf := ifp hf c118
                        refine lv_tableIn (off := 101) (tgt := 121) hx hb dX9_of_20 (by rw [c118]; decide) (by rw [c118]; decide) (by rw [c118]; try rfl) (by decide) ?_
                        refine lv_aload_n hx hb dX9_of_121 rfl (lv_at hl 0 rfl) ?_
                        obtain ⟨r120, m119, cm119, hf⟩ := b2_el (o := f_X0_thermometer b104 m102) hf
                        refine x_callVi (As := []) (rest := []) C hl.1 hw cb_X9_122 cv_X0_thermometer (k_X0_thermometer hw.2.2.2.2 tb104 cm119) tb104 rfl rfl (by decide) ⟨Nat.le_refl _, Nat.le_refl _⟩ rfl (Nat.le_of_ble_eq_true rfl) dX9_of_122 (fun H locs hw tr120 => ?_)
                        exact x_retI C hr hk hw  hf (by decide) (by decide) dX9_of_125
                      · have hf := ifn hf c118
                        refine lv_tableOut (tgt := 126) hx hb dX9_of_20 (by
                            have hc107 := sw_ne (a := 0) c107 (by decide)
                            have hc108 := sw_ne (a := 1) c108 (by decide)
                            have hc109 := sw_ne (a := 2) c109 (by decide)
                            have hc110 := sw_ne (a := 3) c110 (by decide)
                            have hc111 := sw_ne (a := 4) c111 (by decide)
                            have hc112 := sw_ne (a := 5) c112 (by decide)
                            have hc113 := sw_ne (a := 6) c113 (by decide)
                            have hc114 := sw_ne (a := 7) c114 (by decide)
                            have hc115 := sw_ne (a := 8) c115 (by decide)
                            have hc118 := sw_ne (a := 9) c118 (by decide)
                            omega) (by decide) ?_
                        refine lv_aload_n hx hb dX9_of_126 rfl (lv_at hl 1 rfl) ?_
                        refine lv_iconst hx hb dX9_of_127 ki_0 ?_
                        obtain ⟨r122, m121, cm121, hf⟩ := b2_el (o := f_X9_finding a0 0 m102) hf
                        refine x_callVi (As := [.int 0]) (rest := []) C hl.1 hw cb_X9_63 cv_X9_finding (k_X9_finding hw.2.2.2.2 ta0 cm121) ta0 rfl rfl (by decide) ⟨Nat.le_refl _, Nat.le_refl _⟩ rfl (Nat.le_of_ble_eq_true rfl) dX9_of_128 (fun H locs hw tr122 => ?_)
                        exact x_retI C hr hk hw  hf (by decide) (by decide) dX9_of_131
set_option maxHeartbeats 4000000 in
set_option maxRecDepth 100000 in
theorem w_X9_order_h12 {p : Program} {l : Launch} {e : Env} {s : State} {m : MethodId} {args : Array Value} {below : List Frame} {meth : Method} {c : Code} {D : va_G} {E : Nat → ClassId} {tU : Nat} {m0 mE : XMem} {rE : Int32} (C : Cx p s m args c cX9_order 3 RX9 D E (Am m0) tU) (hr : meth.sig.returnType = ((Option.some FieldType.int))) (hk : meth.locks = false) (hnm : meth.name = yX9_order.name) {a0 : Nat} {x1 : Int32} (ta0 : mT m0 a0 = some (.inl 9)) {k35 : Int32 →  XMem → Option (Int32 × XMem)} {k43 :  XMem → Option (Int32 × XMem)} (hk35 : ∀ (y2 : Int32) (mu : XMem) (H : Heap) (locs : List Loc) (ls : Array Slot), lv_has ls 3 [(2, .int y2)] → Wd D E (Am m0) s (mT m0) mu H locs →   k35 y2 mu = some (rE, mE) → W p l e (rmN 3 0 0) s m args below meth c H locs 0 0 (MQ below (XQ D E (Am m0) (some (.int rE)) mE (mT mE = mT m0 ∧ True)) args s 0 0 (Am m0)) (F0 m 35 ls [])) (hk43 : ∀  (mu : XMem) (H : Heap) (locs : List Loc) (ls : Array Slot), lv_has ls 3 [(0, .ref a0)] → Wd D E (Am m0) s (mT m0) mu H locs →   k43  mu = some (rE, mE) → W p l e (rmN 3 0 0) s m args below meth c H locs 0 0 (MQ below (XQ D E (Am m0) (some (.int rE)) mE (mT mE = mT m0 ∧ True)) args s 0 0 (Am m0)) (F0 m 43 ls [])) : ∀ (n : Nat) (x2 : Int32) (mu : XMem) (H : Heap) (locs : List Loc) (ls : Array Slot), lv_has ls 3 [(0, .ref a0), (1, .int x1), (2, .int x2)] → Wd D E (Am m0) s (mT m0) mu H locs → f_X9_order_h12 a0 x1 k35 k43 n x2 mu = some (rE, mE) → W p l e (rmN 3 0 0) s m args below meth c H locs 0 0 (MQ below (XQ D E (Am m0) (some (.int rE)) mE (mT mE = mT m0 ∧ True)) args s 0 0 (Am m0)) (F0 m 12 ls []) := by
  have hx := C.1
  have hb := C.2.1
  intro n
  induction n with
  | zero =>
    intros
    rename_i hf
    cases hf
  | succ n ih =>
    intro x2 mu H locs ls hl hw hf
    rw [f_X9_order_h12] at hf
    refine lv_iload_n hx hb dX9_order_12 rfl (lv_at hl 2 rfl) ?_
    refine lv_aload_n hx hb dX9_order_13 rfl (lv_at hl 0 rfl) ?_
    obtain ⟨b108, eb108, hf⟩ := fo_el hf
    refine x_getR C hw fa_X9_10 (Or.inl ⟨_, rfl⟩) ta0 eb108 dX9_order_14 (fun tb108 => ?_)
    have tb108 : (mT m0) b108 = some (.inl 8) := tb108
    refine x_getI C hw fa_X9_233 tb108 dX9_order_17 ?_
    refine lv_icmp_ge (tgt := 43) hx hb dX9_order_20 (by decide) (fun c => ?_) (fun c => ?_)
    · have hf := ifp hf c
      exact hk43 _ _ _ _ (lv_sub hl [0] rfl) hw hf
    · have hf := ifn hf c
      refine lv_aload_n hx hb dX9_order_23 rfl (lv_at hl 0 rfl) ?_
      obtain ⟨b109, eb109, hf⟩ := fo_el hf
      refine x_getR C hw fa_X9_10 (Or.inl ⟨_, rfl⟩) ta0 eb109 dX9_order_24 (fun tb109 => ?_)
      have tb109 : (mT m0) b109 = some (.inl 8) := tb109
      refine lv_iload_n hx hb dX9_order_27 rfl (lv_at hl 2 rfl) ?_
      obtain ⟨r111, m110, cm110, hf⟩ := b2_el (o := f_X8_placeInOrder b109 x2 mu) hf
      refine x_callVi (As := [.int x2]) (rest := []) C hl.1 hw cb_X9_269 cv_X8_placeInOrder (k_X8_placeInOrder hw.2.2.2.2 tb109 cm110) tb109 rfl rfl (by decide) ⟨Nat.le_refl _, Nat.le_refl _⟩ rfl (Nat.le_of_ble_eq_true rfl) dX9_order_28 (fun H locs hw tr111 => ?_)
      refine lv_iload_n hx hb dX9_order_31 rfl (lv_at hl 1 rfl) ?_
      refine lv_icmp_ne (tgt := 37) hx hb dX9_order_32 (by decide) (fun c => ?_) (fun c => ?_)
      · have hf := ifn hf c
        obtain ⟨x112, ex112⟩ : ∃ z : Int32, z = x2 + 1 := ⟨_, rfl⟩
        have hf := nm_el hf ex112
        refine lv_iinc (v := x112) (lv' := [(2, .int x112), (0, .ref a0), (1, .int x1)]) hx hb dX9_order_37 hl (k := 2) rfl (by rw [ex112, ki_1]) (by decide) rfl (fun ls hl => ?_)
        refine lv_goto (tgt := 12) hx hb dX9_order_40 (by decide) ?_
        exact ih _ _ _ _ _ (lv_sub hl [1, 2, 0] rfl) hw hf
      · have hf := ifp hf c
        exact hk35 _ _ _ _ _ (lv_sub hl [2] rfl) hw hf
set_option maxHeartbeats 4000000 in
set_option maxRecDepth 100000 in
theorem k_X9_order {l : Launch} {D : va_G} {E : Nat → ClassId} {tU : Nat} {τ : Nat → Option XTy} {a0 : Nat} {x1 : Int32} {m0 mE : XMem} {rE : Int32} (hm : mT m0 = τ) (ta0 : τ a0 = some (.inl 9)) (hf : f_X9_order a0 x1 m0 = some (rE, mE)) : Ct l yX9_order cX9_order 3 ((Option.some FieldType.int)) 3 0 0 D E tU [.ref a0, .int x1] m0 (some (.int rE)) mE (mT mE = mT m0 ∧ True) := by
  subst hm
  refine Ct.of (by decide) (Nat.le_of_ble_eq_true rfl) (fun p e s m below meth c ls C hr hk hnm hl hw => ?_)
  have hx := C.1
  have hb := C.2.1
  have hl : lv_has ls 3 [(0, .ref a0), (1, .int x1)] := hl
  unfold f_X9_order at hf
  refine lv_iload_n hx hb dX9_order_0 rfl (lv_at hl 1 rfl) ?_
  refine lv_if_ge (tgt := 10) hx hb dX9_order_1 (by decide) (fun c => ?_) (fun c => ?_)
  · have hf := ifp hf c
    refine lv_iconst hx hb dX9_order_10 ki_0 ?_
    refine lv_istore_n (lv' := [(2, .int 0), (0, .ref a0), (1, .int x1)]) hx hb dX9_order_11 rfl hl (by decide) rfl (fun ls hl => ?_)
    refine w_X9_order_h12 C hr hk hnm ta0 ?_ ?_ 2000 _ _ _ _ _ (lv_sub hl [1, 2, 0] rfl) hw hf
    · intro x102 m101 H locs ls hl hw hf
      refine lv_iload_n hx hb dX9_order_35 rfl (lv_at hl 0 rfl) ?_
      exact x_retI C hr hk hw  hf (by decide) (by decide) dX9_order_36
    · intro m103 H locs ls hl hw hf
      refine lv_aload_n hx hb dX9_order_43 rfl (lv_at hl 0 rfl) ?_
      refine lv_iconst hx hb dX9_order_44 ki_3 ?_
      obtain ⟨r105, m104, cm104, hf⟩ := b2_el (o := f_X9_finding a0 3 m103) hf
      refine x_callVi (As := [.int 3]) (rest := []) C hl.1 hw cb_X9_63 cv_X9_finding (k_X9_finding hw.2.2.2.2 ta0 cm104) ta0 rfl rfl (by decide) ⟨Nat.le_refl _, Nat.le_refl _⟩ rfl (Nat.le_of_ble_eq_true rfl) dX9_order_45 (fun H locs hw tr105 => ?_)
      exact x_retI C hr hk hw  hf (by decide) (by decide) dX9_order_48
  · have hf := ifn hf c
    refine lv_aload_n hx hb dX9_order_4 rfl (lv_at hl 0 rfl) ?_
    refine lv_iconst hx hb dX9_order_5 ki_0 ?_
    obtain ⟨r107, m106, cm106, hf⟩ := b2_el (o := f_X9_finding a0 0 m0) hf
    refine x_callVi (As := [.int 0]) (rest := []) C hl.1 hw cb_X9_63 cv_X9_finding (k_X9_finding hw.2.2.2.2 ta0 cm106) ta0 rfl rfl (by decide) ⟨Nat.le_refl _, Nat.le_refl _⟩ rfl (Nat.le_of_ble_eq_true rfl) dX9_order_6 (fun H locs hw tr107 => ?_)
    exact x_retI C hr hk hw  hf (by decide) (by decide) dX9_order_9
set_option maxHeartbeats 4000000 in
set_option maxRecDepth 100000 in
theorem w_X9_parted_h70 {p : Program} {l : Launch} {e : Env} {s : State} {m : MethodId} {args : Array Value} {below : List Frame} {meth : Method} {c : Code} {D : va_G} {E : Nat → ClassId} {tU : Nat} {m0 mE : XMem} {rE : Int32} (C : Cx p s m args c cX9_parted 7 RX9 D E (Am m0) tU) (hr : meth.sig.returnType = ((Option.some FieldType.int))) (hk : meth.locks = false) (hnm : meth.name = yX9_parted.name) {a0 : Nat} {x1 : Int32} {x2 : Int32} {x3 : Int32} {x4 : Int32} (ta0 : mT m0 a0 = some (.inl 9)) {k150 : Int32 →  XMem → Option (Int32 × XMem)} {k159 :  XMem → Option (Int32 × XMem)} (hk150 : ∀ (y6 : Int32) (mu : XMem) (H : Heap) (locs : List Loc) (ls : Array Slot), lv_has ls 7 [(6, .int y6)] → Wd D E (Am m0) s (mT m0) mu H locs →   k150 y6 mu = some (rE, mE) → W p l e (rmN 6 0 0) s m args below meth c H locs 0 0 (MQ below (XQ D E (Am m0) (some (.int rE)) mE (mT mE = mT m0 ∧ True)) args s 0 0 (Am m0)) (F0 m 150 ls [])) (hk159 : ∀  (mu : XMem) (H : Heap) (locs : List Loc) (ls : Array Slot), lv_has ls 7 [(0, .ref a0)] → Wd D E (Am m0) s (mT m0) mu H locs →   k159  mu = some (rE, mE) → W p l e (rmN 6 0 0) s m args below meth c H locs 0 0 (MQ below (XQ D E (Am m0) (some (.int rE)) mE (mT mE = mT m0 ∧ True)) args s 0 0 (Am m0)) (F0 m 159 ls [])) : ∀ (n : Nat) (x6 : Int32) (mu : XMem) (H : Heap) (locs : List Loc) (ls : Array Slot), lv_has ls 7 [(0, .ref a0), (1, .int x1), (2, .int x2), (3, .int x3), (4, .int x4), (6, .int x6)] → Wd D E (Am m0) s (mT m0) mu H locs → f_X9_parted_h70 a0 x1 x2 x3 x4 k150 k159 n x6 mu = some (rE, mE) → W p l e (rmN 6 0 0) s m args below meth c H locs 0 0 (MQ below (XQ D E (Am m0) (some (.int rE)) mE (mT mE = mT m0 ∧ True)) args s 0 0 (Am m0)) (F0 m 70 ls []) := by
  have hx := C.1
  have hb := C.2.1
  intro n
  induction n with
  | zero =>
    intros
    rename_i hf
    cases hf
  | succ n ih =>
    intro x6 mu H locs ls hl hw hf
    rw [f_X9_parted_h70] at hf
    refine lv_iload hx hb dX9_parted_70 (lv_at hl 5 rfl) ?_
    refine lv_bipush hx hb dX9_parted_72 kb_50 ?_
    refine lv_icmp_gt (tgt := 159) hx hb dX9_parted_74 (by decide) (fun c => ?_) (fun c => ?_)
    · have hf := ifp hf c
      exact hk159 _ _ _ _ (lv_sub hl [0] rfl) hw hf
    · have hf := ifn hf c
      refine lv_aload_n hx hb dX9_parted_77 rfl (lv_at hl 0 rfl) ?_
      obtain ⟨b128, eb128, hf⟩ := fo_el hf
      refine x_getR C hw fa_X9_10 (Or.inl ⟨_, rfl⟩) ta0 eb128 dX9_parted_78 (fun tb128 => ?_)
      have tb128 : (mT m0) b128 = some (.inl 8) := tb128
      refine lv_aload_n hx hb dX9_parted_81 rfl (lv_at hl 0 rfl) ?_
      obtain ⟨b129, eb129, hf⟩ := fo_el hf
      refine x_getR C hw fa_X9_50 (Or.inl ⟨_, rfl⟩) ta0 eb129 dX9_parted_82 (fun tb129 => ?_)
      have tb129 : (mT m0) b129 = some (.inl 0) := tb129
      refine lv_iload_n hx hb dX9_parted_85 rfl (lv_at hl 1 rfl) ?_
      refine lv_iload_n hx hb dX9_parted_86 rfl (lv_at hl 2 rfl) ?_
      refine lv_aload_n hx hb dX9_parted_87 rfl (lv_at hl 0 rfl) ?_
      obtain ⟨b130, eb130, hf⟩ := fo_el hf
      refine x_getR C hw fa_X9_10 (Or.inl ⟨_, rfl⟩) ta0 eb130 dX9_parted_88 (fun tb130 => ?_)
      have tb130 : (mT m0) b130 = some (.inl 8) := tb130
      refine x_getI C hw fa_X9_106 tb130 dX9_parted_91 ?_
      refine lv_iload hx hb dX9_parted_94 (lv_at hl 5 rfl) ?_
      refine lv_iadd hx hb dX9_parted_96 ?_
      refine lv_iconst hx hb dX9_parted_97 ki_1 ?_
      refine lv_isub hx hb dX9_parted_98 ?_
      obtain ⟨m131, cm131, hf⟩ := b1_el (o := f_X8_warm b128 b129 x1 x2 (((mI mu b130 0) + x6) - 1) mu) hf
      refine x_callVv (As := [.ref b129, .int x1, .int x2, .int (((mI mu b130 0) + x6) - 1)]) (rest := []) C hl.1 hw cb_X9_297 cv_X8_warm (k_X8_warm hw.2.2.2.2 tb128 tb129 cm131) tb128 rfl rfl (by decide) ⟨Nat.le_refl _, Nat.le_refl _⟩ rfl (Nat.le_of_ble_eq_true rfl) dX9_parted_99 (fun H locs hw tm131 => ?_)
      refine lv_aload_n hx hb dX9_parted_102 rfl (lv_at hl 0 rfl) ?_
      obtain ⟨b132, eb132, hf⟩ := fo_el hf
      refine x_getR C hw fa_X9_10 (Or.inl ⟨_, rfl⟩) ta0 eb132 dX9_parted_103 (fun tb132 => ?_)
      have tb132 : (mT m0) b132 = some (.inl 8) := tb132
      refine lv_aload_n hx hb dX9_parted_106 rfl (lv_at hl 0 rfl) ?_
      obtain ⟨b133, eb133, hf⟩ := fo_el hf
      refine x_getR C hw fa_X9_54 (Or.inl ⟨_, rfl⟩) ta0 eb133 dX9_parted_107 (fun tb133 => ?_)
      have tb133 : (mT m0) b133 = some (.inl 0) := tb133
      refine lv_iload_n hx hb dX9_parted_110 rfl (lv_at hl 1 rfl) ?_
      refine lv_iload_n hx hb dX9_parted_111 rfl (lv_at hl 3 rfl) ?_
      refine lv_aload_n hx hb dX9_parted_112 rfl (lv_at hl 0 rfl) ?_
      obtain ⟨b134, eb134, hf⟩ := fo_el hf
      refine x_getR C hw fa_X9_10 (Or.inl ⟨_, rfl⟩) ta0 eb134 dX9_parted_113 (fun tb134 => ?_)
      have tb134 : (mT m0) b134 = some (.inl 8) := tb134
      refine x_getI C hw fa_X9_106 tb134 dX9_parted_116 ?_
      refine lv_iload hx hb dX9_parted_119 (lv_at hl 5 rfl) ?_
      refine lv_iadd hx hb dX9_parted_121 ?_
      refine lv_iconst hx hb dX9_parted_122 ki_1 ?_
      refine lv_isub hx hb dX9_parted_123 ?_
      obtain ⟨m135, cm135, hf⟩ := b1_el (o := f_X8_warm b132 b133 x1 x3 (((mI m131 b134 0) + x6) - 1) m131) hf
      refine x_callVv (As := [.ref b133, .int x1, .int x3, .int (((mI m131 b134 0) + x6) - 1)]) (rest := []) C hl.1 hw cb_X9_297 cv_X8_warm (k_X8_warm hw.2.2.2.2 tb132 tb133 cm135) tb132 rfl rfl (by decide) ⟨Nat.le_refl _, Nat.le_refl _⟩ rfl (Nat.le_of_ble_eq_true rfl) dX9_parted_124 (fun H locs hw tm135 => ?_)
      refine lv_aload_n hx hb dX9_parted_127 rfl (lv_at hl 0 rfl) ?_
      obtain ⟨b136, eb136, hf⟩ := fo_el hf
      refine x_getR C hw fa_X9_50 (Or.inl ⟨_, rfl⟩) ta0 eb136 dX9_parted_128 (fun tb136 => ?_)
      have tb136 : (mT m0) b136 = some (.inl 0) := tb136
      obtain ⟨r138, m137, cm137, hf⟩ := b2_el (o := f_X0_thermometer b136 m135) hf
      refine x_callVi (As := []) (rest := []) C hl.1 hw cb_X9_122 cv_X0_thermometer (k_X0_thermometer hw.2.2.2.2 tb136 cm137) tb136 rfl rfl (by decide) ⟨Nat.le_refl _, Nat.le_refl _⟩ rfl (Nat.le_of_ble_eq_true rfl) dX9_parted_131 (fun H locs hw tr138 => ?_)
      refine lv_aload_n hx hb dX9_parted_134 rfl (lv_at hl 0 rfl) ?_
      obtain ⟨b139, eb139, hf⟩ := fo_el hf
      refine x_getR C hw fa_X9_54 (Or.inl ⟨_, rfl⟩) ta0 eb139 dX9_parted_135 (fun tb139 => ?_)
      have tb139 : (mT m0) b139 = some (.inl 0) := tb139
      obtain ⟨r141, m140, cm140, hf⟩ := b2_el (o := f_X0_thermometer b139 m137) hf
      refine x_callVi (As := []) (rest := [.int r138]) C hl.1 hw cb_X9_122 cv_X0_thermometer (k_X0_thermometer hw.2.2.2.2 tb139 cm140) tb139 rfl rfl (by decide) ⟨Nat.le_refl _, Nat.le_refl _⟩ rfl (Nat.le_of_ble_eq_true rfl) dX9_parted_138 (fun H locs hw tr141 => ?_)
      refine lv_isub hx hb dX9_parted_141 ?_
      refine x_mabs C hl.1 km_X9_300 (by decide) (Nat.le_of_ble_eq_true rfl) (by decide) (Nat.zero_le _) (Nat.zero_le _) dX9_parted_142 ?_
      refine lv_topi (fun x142 ex142 => ?_)
      have hf := nm_el hf ex142
      refine lv_iload hx hb dX9_parted_145 (lv_at hl 4 rfl) ?_
      refine lv_icmp_lt (tgt := 153) hx hb dX9_parted_147 (by decide) (fun c => ?_) (fun c => ?_)
      · have hf := ifp hf c
        obtain ⟨x143, ex143⟩ : ∃ z : Int32, z = x6 + 1 := ⟨_, rfl⟩
        have hf := nm_el hf ex143
        refine lv_iinc (v := x143) (lv' := [(6, .int x143), (0, .ref a0), (1, .int x1), (2, .int x2), (3, .int x3), (4, .int x4)]) hx hb dX9_parted_153 hl (k := 5) rfl (by rw [ex143, ki_1]) (by decide) rfl (fun ls hl => ?_)
        refine lv_goto (tgt := 70) hx hb dX9_parted_156 (by decide) ?_
        exact ih _ _ _ _ _ (lv_sub hl [1, 2, 3, 4, 5, 0] rfl) hw hf
      · have hf := ifn hf c
        exact hk150 _ _ _ _ _ (lv_sub hl [5] rfl) hw hf
set_option maxHeartbeats 4000000 in
set_option maxRecDepth 100000 in
theorem k_X9_parted {l : Launch} {D : va_G} {E : Nat → ClassId} {tU : Nat} {τ : Nat → Option XTy} {a0 : Nat} {x1 : Int32} {x2 : Int32} {x3 : Int32} {x4 : Int32} {m0 mE : XMem} {rE : Int32} (hm : mT m0 = τ) (ta0 : τ a0 = some (.inl 9)) (hf : f_X9_parted a0 x1 x2 x3 x4 m0 = some (rE, mE)) : Ct l yX9_parted cX9_parted 7 ((Option.some FieldType.int)) 6 0 0 D E tU [.ref a0, .int x1, .int x2, .int x3, .int x4] m0 (some (.int rE)) mE (mT mE = mT m0 ∧ True) := by
  subst hm
  refine Ct.of (by decide) (Nat.le_of_ble_eq_true rfl) (fun p e s m below meth c ls C hr hk hnm hl hw => ?_)
  have hx := C.1
  have hb := C.2.1
  have hl : lv_has ls 7 [(0, .ref a0), (1, .int x1), (2, .int x2), (3, .int x3), (4, .int x4)] := hl
  unfold f_X9_parted at hf
  refine lv_aload_n hx hb dX9_parted_0 rfl (lv_at hl 0 rfl) ?_
  obtain ⟨b101, eb101, hf⟩ := fo_el hf
  refine x_getR C hw fa_X9_10 (Or.inl ⟨_, rfl⟩) ta0 eb101 dX9_parted_1 (fun tb101 => ?_)
  have tb101 : (mT m0) b101 = some (.inl 8) := tb101
  refine lv_iload_n hx hb dX9_parted_4 rfl (lv_at hl 1 rfl) ?_
  obtain ⟨o103, m102, cm102, hf⟩ := b2_el (o := f_X8_cellAt b101 x1 m0) hf
  have hmp := hw.2.2.2.2
  refine x_callVq (As := [.int x1]) (rest := []) C hl.1 hw cb_X9_96 cv_X8_cellAt (k_X8_cellAt hw.2.2.2.2 tb101 cm102) tb101 rfl rfl (by decide) ⟨Nat.le_refl _, Nat.le_refl _⟩ rfl (Nat.le_of_ble_eq_true rfl) dX9_parted_5 (fun H locs hw to103 => ?_)
  have to103 : ∀ b, o103 = some b → (mT m0) b = some (.inl 0) := fun b h => by have q := to103 b h; rw [hmp] at q; exact q
  refine x_astoreQ (lv' := [(5, va_rf o103), (0, .ref a0), (1, .int x1), (2, .int x2), (3, .int x3), (4, .int x4)]) hx hb dX9_parted_8 hl (by decide) rfl (fun ls hl => ?_)
  refine x_aloadQ hx hb dX9_parted_10 (lv_at hl 0 rfl) ?_
  cases o103 with
  | none =>
    have hf := oc_n hf
    refine lv_ifnullN (tgt := 43) hx hb dX9_parted_12 (by decide) ?_
    refine lv_aload_n hx hb dX9_parted_43 rfl (lv_at hl 1 rfl) ?_
    refine lv_iconst hx hb dX9_parted_44 ki_0 ?_
    obtain ⟨r106, m105, cm105, hf⟩ := b2_el (o := f_X9_finding a0 0 m102) hf
    refine x_callVi (As := [.int 0]) (rest := []) C hl.1 hw cb_X9_63 cv_X9_finding (k_X9_finding hw.2.2.2.2 ta0 cm105) ta0 rfl rfl (by decide) ⟨Nat.le_refl _, Nat.le_refl _⟩ rfl (Nat.le_of_ble_eq_true rfl) dX9_parted_45 (fun H locs hw tr106 => ?_)
    exact x_retI C hr hk hw  hf (by decide) (by decide) dX9_parted_48
  | some b104 =>
    have hf := oc_s hf
    have tb104 := to103 b104 rfl
    refine lv_ifnull hx hb dX9_parted_12 ?_
    refine lv_aload_n hx hb dX9_parted_15 rfl (lv_at hl 1 rfl) ?_
    refine lv_iload_n hx hb dX9_parted_16 rfl (lv_at hl 3 rfl) ?_
    obtain ⟨r108, m107, cm107, hf⟩ := b2_el (o := f_X9_isLawOrNone a0 x2 m102) hf
    refine x_callVi (As := [.int x2]) (rest := []) C hl.1 hw cb_X9_190 cv_X9_isLawOrNone (k_X9_isLawOrNone hw.2.2.2.2 ta0 cm107) ta0 rfl rfl (by decide) ⟨Nat.le_refl _, Nat.le_refl _⟩ rfl (Nat.le_of_ble_eq_true rfl) dX9_parted_17 (fun H locs hw tr108 => ?_)
    refine lv_if_eq (tgt := 43) hx hb dX9_parted_20 (by decide) (fun c => ?_) (fun c => ?_)
    · have hf := ifp hf c
      refine lv_aload_n hx hb dX9_parted_43 rfl (lv_at hl 1 rfl) ?_
      refine lv_iconst hx hb dX9_parted_44 ki_0 ?_
      obtain ⟨r110, m109, cm109, hf⟩ := b2_el (o := f_X9_finding a0 0 m107) hf
      refine x_callVi (As := [.int 0]) (rest := []) C hl.1 hw cb_X9_63 cv_X9_finding (k_X9_finding hw.2.2.2.2 ta0 cm109) ta0 rfl rfl (by decide) ⟨Nat.le_refl _, Nat.le_refl _⟩ rfl (Nat.le_of_ble_eq_true rfl) dX9_parted_45 (fun H locs hw tr110 => ?_)
      exact x_retI C hr hk hw  hf (by decide) (by decide) dX9_parted_48
    · have hf := ifn hf c
      refine lv_aload_n hx hb dX9_parted_23 rfl (lv_at hl 1 rfl) ?_
      refine lv_iload_n hx hb dX9_parted_24 rfl (lv_at hl 4 rfl) ?_
      obtain ⟨r112, m111, cm111, hf⟩ := b2_el (o := f_X9_isLawOrNone a0 x3 m107) hf
      refine x_callVi (As := [.int x3]) (rest := []) C hl.1 hw cb_X9_190 cv_X9_isLawOrNone (k_X9_isLawOrNone hw.2.2.2.2 ta0 cm111) ta0 rfl rfl (by decide) ⟨Nat.le_refl _, Nat.le_refl _⟩ rfl (Nat.le_of_ble_eq_true rfl) dX9_parted_25 (fun H locs hw tr112 => ?_)
      refine lv_if_eq (tgt := 43) hx hb dX9_parted_28 (by decide) (fun c => ?_) (fun c => ?_)
      · have hf := ifp hf c
        refine lv_aload_n hx hb dX9_parted_43 rfl (lv_at hl 1 rfl) ?_
        refine lv_iconst hx hb dX9_parted_44 ki_0 ?_
        obtain ⟨r114, m113, cm113, hf⟩ := b2_el (o := f_X9_finding a0 0 m111) hf
        refine x_callVi (As := [.int 0]) (rest := []) C hl.1 hw cb_X9_63 cv_X9_finding (k_X9_finding hw.2.2.2.2 ta0 cm113) ta0 rfl rfl (by decide) ⟨Nat.le_refl _, Nat.le_refl _⟩ rfl (Nat.le_of_ble_eq_true rfl) dX9_parted_45 (fun H locs hw tr114 => ?_)
        exact x_retI C hr hk hw  hf (by decide) (by decide) dX9_parted_48
      · have hf := ifn hf c
        refine lv_iload hx hb dX9_parted_31 (lv_at hl 5 rfl) ?_
        refine lv_iconst hx hb dX9_parted_33 ki_1 ?_
        refine lv_sipush hx hb dX9_parted_34 ks_9999 ?_
        obtain ⟨r116, m115, cm115, hf⟩ := b2_el (o := f_X9_within x4 1 9999 m111) hf
        refine x_callSi (As := [.int x4, .int 1, .int 9999]) (rest := []) C hl.1 hw cb_X9_59 cs_X9_within (k_X9_within hw.2.2.2.2  cm115) rfl (by decide) ⟨Nat.le_refl _, Nat.le_refl _⟩ rfl (Nat.le_of_ble_eq_true rfl) dX9_parted_37 (fun H locs hw tr116 => ?_)
        refine lv_if_ne (tgt := 49) hx hb dX9_parted_40 (by decide) (fun c => ?_) (fun c => ?_)
        · have hf := ifn hf c
          refine lv_aload_n hx hb dX9_parted_49 rfl (lv_at hl 1 rfl) ?_
          obtain ⟨b117, eb117, hf⟩ := fo_el hf
          refine x_getR C hw fa_X9_50 (Or.inl ⟨_, rfl⟩) ta0 eb117 dX9_parted_50 (fun tb117 => ?_)
          have tb117 : (mT m0) b117 = some (.inl 0) := tb117
          refine lv_aload hx hb dX9_parted_53 (lv_at hl 0 rfl) ?_
          obtain ⟨m118, cm118, hf⟩ := b1_el (o := f_X0_take b117 b104 m115) hf
          refine x_callVv (As := [.ref b104]) (rest := []) C hl.1 hw cb_X9_289 cv_X0_take (k_X0_take hw.2.2.2.2 tb117 tb104 cm118) tb117 rfl rfl (by decide) ⟨Nat.le_refl _, Nat.le_refl _⟩ rfl (Nat.le_of_ble_eq_true rfl) dX9_parted_55 (fun H locs hw tm118 => ?_)
          refine lv_aload_n hx hb dX9_parted_58 rfl (lv_at hl 1 rfl) ?_
          obtain ⟨b119, eb119, hf⟩ := fo_el hf
          refine x_getR C hw fa_X9_54 (Or.inl ⟨_, rfl⟩) ta0 eb119 dX9_parted_59 (fun tb119 => ?_)
          have tb119 : (mT m0) b119 = some (.inl 0) := tb119
          refine lv_aload hx hb dX9_parted_62 (lv_at hl 0 rfl) ?_
          obtain ⟨m120, cm120, hf⟩ := b1_el (o := f_X0_take b119 b104 m118) hf
          refine x_callVv (As := [.ref b104]) (rest := []) C hl.1 hw cb_X9_289 cv_X0_take (k_X0_take hw.2.2.2.2 tb119 tb104 cm120) tb119 rfl rfl (by decide) ⟨Nat.le_refl _, Nat.le_refl _⟩ rfl (Nat.le_of_ble_eq_true rfl) dX9_parted_64 (fun H locs hw tm120 => ?_)
          refine lv_iconst hx hb dX9_parted_67 ki_1 ?_
          refine lv_istore (lv' := [(6, .int 1), (5, .ref b104), (0, .ref a0), (1, .int x1), (2, .int x2), (3, .int x3), (4, .int x4)]) hx hb dX9_parted_68 hl (by decide) rfl (fun ls hl => ?_)
          refine w_X9_parted_h70 C hr hk hnm ta0 ?_ ?_ 2000 _ _ _ _ _ (lv_sub hl [2, 3, 4, 5, 6, 0] rfl) hw hf
          · intro x122 m121 H locs ls hl hw hf
            refine lv_iload hx hb dX9_parted_150 (lv_at hl 0 rfl) ?_
            exact x_retI C hr hk hw  hf (by decide) (by decide) dX9_parted_152
          · intro m123 H locs ls hl hw hf
            refine lv_aload_n hx hb dX9_parted_159 rfl (lv_at hl 0 rfl) ?_
            refine lv_iconst hx hb dX9_parted_160 ki_3 ?_
            obtain ⟨r125, m124, cm124, hf⟩ := b2_el (o := f_X9_finding a0 3 m123) hf
            refine x_callVi (As := [.int 3]) (rest := []) C hl.1 hw cb_X9_63 cv_X9_finding (k_X9_finding hw.2.2.2.2 ta0 cm124) ta0 rfl rfl (by decide) ⟨Nat.le_refl _, Nat.le_refl _⟩ rfl (Nat.le_of_ble_eq_true rfl) dX9_parted_161 (fun H locs hw tr125 => ?_)
            exact x_retI C hr hk hw  hf (by decide) (by decide) dX9_parted_164
        · have hf := ifp hf c
          refine lv_aload_n hx hb dX9_parted_43 rfl (lv_at hl 1 rfl) ?_
          refine lv_iconst hx hb dX9_parted_44 ki_0 ?_
          obtain ⟨r127, m126, cm126, hf⟩ := b2_el (o := f_X9_finding a0 0 m115) hf
          refine x_callVi (As := [.int 0]) (rest := []) C hl.1 hw cb_X9_63 cv_X9_finding (k_X9_finding hw.2.2.2.2 ta0 cm126) ta0 rfl rfl (by decide) ⟨Nat.le_refl _, Nat.le_refl _⟩ rfl (Nat.le_of_ble_eq_true rfl) dX9_parted_45 (fun H locs hw tr127 => ?_)
          exact x_retI C hr hk hw  hf (by decide) (by decide) dX9_parted_48
set_option maxHeartbeats 4000000 in
set_option maxRecDepth 100000 in
theorem k_X9_power {l : Launch} {D : va_G} {E : Nat → ClassId} {tU : Nat} {τ : Nat → Option XTy} {a0 : Nat} {x1 : Int32} {x2 : Int32} {m0 mE : XMem} {rE : Int32} (hm : mT m0 = τ) (ta0 : τ a0 = some (.inl 9)) (hf : f_X9_power a0 x1 x2 m0 = some (rE, mE)) : Ct l yX9_power cX9_power 5 ((Option.some FieldType.int)) 2 0 0 D E tU [.ref a0, .int x1, .int x2] m0 (some (.int rE)) mE (mT mE = mT m0 ∧ True) := by
  subst hm
  refine Ct.of (by decide) (Nat.le_of_ble_eq_true rfl) (fun p e s m below meth c ls C hr hk hnm hl hw => ?_)
  have hx := C.1
  have hb := C.2.1
  have hl : lv_has ls 5 [(0, .ref a0), (1, .int x1), (2, .int x2)] := hl
  unfold f_X9_power at hf
  refine lv_aload_n hx hb dX9_power_0 rfl (lv_at hl 0 rfl) ?_
  obtain ⟨b101, eb101, hf⟩ := fo_el hf
  refine x_getR C hw fa_X9_10 (Or.inl ⟨_, rfl⟩) ta0 eb101 dX9_power_1 (fun tb101 => ?_)
  have tb101 : (mT m0) b101 = some (.inl 8) := tb101
  refine lv_iload_n hx hb dX9_power_4 rfl (lv_at hl 1 rfl) ?_
  obtain ⟨o103, m102, cm102, hf⟩ := b2_el (o := f_X8_cellAt b101 x1 m0) hf
  have hmp := hw.2.2.2.2
  refine x_callVq (As := [.int x1]) (rest := []) C hl.1 hw cb_X9_96 cv_X8_cellAt (k_X8_cellAt hw.2.2.2.2 tb101 cm102) tb101 rfl rfl (by decide) ⟨Nat.le_refl _, Nat.le_refl _⟩ rfl (Nat.le_of_ble_eq_true rfl) dX9_power_5 (fun H locs hw to103 => ?_)
  have to103 : ∀ b, o103 = some b → (mT m0) b = some (.inl 0) := fun b h => by have q := to103 b h; rw [hmp] at q; exact q
  refine x_astore_nQ (lv' := [(3, va_rf o103), (0, .ref a0), (1, .int x1), (2, .int x2)]) hx hb dX9_power_8 rfl hl (by decide) rfl (fun ls hl => ?_)
  refine x_aload_nQ hx hb dX9_power_9 rfl (lv_at hl 0 rfl) ?_
  cases o103 with
  | none =>
    have hf := oc_n hf
    refine lv_ifnullN (tgt := 24) hx hb dX9_power_10 (by decide) ?_
    refine lv_aload_n hx hb dX9_power_24 rfl (lv_at hl 1 rfl) ?_
    refine lv_iconst hx hb dX9_power_25 ki_0 ?_
    obtain ⟨r106, m105, cm105, hf⟩ := b2_el (o := f_X9_finding a0 0 m102) hf
    refine x_callVi (As := [.int 0]) (rest := []) C hl.1 hw cb_X9_63 cv_X9_finding (k_X9_finding hw.2.2.2.2 ta0 cm105) ta0 rfl rfl (by decide) ⟨Nat.le_refl _, Nat.le_refl _⟩ rfl (Nat.le_of_ble_eq_true rfl) dX9_power_26 (fun H locs hw tr106 => ?_)
    exact x_retI C hr hk hw  hf (by decide) (by decide) dX9_power_29
  | some b104 =>
    have hf := oc_s hf
    have tb104 := to103 b104 rfl
    refine lv_ifnull hx hb dX9_power_10 ?_
    refine lv_iload_n hx hb dX9_power_13 rfl (lv_at hl 3 rfl) ?_
    refine lv_iconst hx hb dX9_power_14 ki_0 ?_
    refine lv_sipush hx hb dX9_power_15 ks_9999 ?_
    obtain ⟨r108, m107, cm107, hf⟩ := b2_el (o := f_X9_within x2 0 9999 m102) hf
    refine x_callSi (As := [.int x2, .int 0, .int 9999]) (rest := []) C hl.1 hw cb_X9_59 cs_X9_within (k_X9_within hw.2.2.2.2  cm107) rfl (by decide) ⟨Nat.le_refl _, Nat.le_refl _⟩ rfl (Nat.le_of_ble_eq_true rfl) dX9_power_18 (fun H locs hw tr108 => ?_)
    refine lv_if_ne (tgt := 30) hx hb dX9_power_21 (by decide) (fun c => ?_) (fun c => ?_)
    · have hf := ifn hf c
      refine lv_aload_n hx hb dX9_power_30 rfl (lv_at hl 0 rfl) ?_
      refine x_getI C hw fa_X9_84 tb104 dX9_power_31 ?_
      refine lv_topi (fun x109 ex109 => ?_)
      have hf := nm_el hf ex109
      refine lv_istore (lv' := [(4, .int x109), (3, .ref b104), (0, .ref a0), (1, .int x1), (2, .int x2)]) hx hb dX9_power_34 hl (by decide) rfl (fun ls hl => ?_)
      refine lv_aload_n hx hb dX9_power_36 rfl (lv_at hl 1 rfl) ?_
      refine lv_iload_n hx hb dX9_power_37 rfl (lv_at hl 4 rfl) ?_
      refine x_putI C hw fa_X9_84 tb104 dX9_power_38 (fun m110 H locs em110 hw => ?_)
      have hf := nm_el hf em110
      refine lv_iload hx hb dX9_power_41 (lv_at hl 0 rfl) ?_
      exact x_retI C hr hk hw  hf (by decide) (by decide) dX9_power_43
    · have hf := ifp hf c
      refine lv_aload_n hx hb dX9_power_24 rfl (lv_at hl 1 rfl) ?_
      refine lv_iconst hx hb dX9_power_25 ki_0 ?_
      obtain ⟨r112, m111, cm111, hf⟩ := b2_el (o := f_X9_finding a0 0 m107) hf
      refine x_callVi (As := [.int 0]) (rest := []) C hl.1 hw cb_X9_63 cv_X9_finding (k_X9_finding hw.2.2.2.2 ta0 cm111) ta0 rfl rfl (by decide) ⟨Nat.le_refl _, Nat.le_refl _⟩ rfl (Nat.le_of_ble_eq_true rfl) dX9_power_26 (fun H locs hw tr112 => ?_)
      exact x_retI C hr hk hw  hf (by decide) (by decide) dX9_power_29
set_option maxHeartbeats 4000000 in
set_option maxRecDepth 100000 in
theorem w_X9_read_h62 {p : Program} {l : Launch} {e : Env} {s : State} {m : MethodId} {args : Array Value} {below : List Frame} {meth : Method} {c : Code} {D : va_G} {E : Nat → ClassId} {tU : Nat} {m0 mE : XMem} {rE : Int32} (C : Cx p s m args c cX9_read 6 RX9 D E (Am m0) tU) (hr : meth.sig.returnType = ((Option.some FieldType.int))) (hk : meth.locks = false) (hnm : meth.name = yX9_read.name) {a0 : Nat} {x2 : Int32} {a3 : Nat} (ta0 : mT m0 a0 = some (.inl 9)) (ta3 : mT m0 a3 = some (.inl 4)) {k118 : Int32 →  XMem → Option (Int32 × XMem)} {k129 :  XMem → Option (Int32 × XMem)} (hk118 : ∀ (y5 : Int32) (mu : XMem) (H : Heap) (locs : List Loc) (ls : Array Slot), lv_has ls 6 [(5, .int y5)] → Wd D E (Am m0) s (mT m0) mu H locs →   k118 y5 mu = some (rE, mE) → W p l e (rmN 6 0 0) s m args below meth c H locs 0 0 (MQ below (XQ D E (Am m0) (some (.int rE)) mE (mT mE = mT m0 ∧ True)) args s 0 0 (Am m0)) (F0 m 118 ls [])) (hk129 : ∀  (mu : XMem) (H : Heap) (locs : List Loc) (ls : Array Slot), lv_has ls 6 [] → Wd D E (Am m0) s (mT m0) mu H locs →   k129  mu = some (rE, mE) → W p l e (rmN 6 0 0) s m args below meth c H locs 0 0 (MQ below (XQ D E (Am m0) (some (.int rE)) mE (mT mE = mT m0 ∧ True)) args s 0 0 (Am m0)) (F0 m 129 ls [])) : ∀ (n : Nat) (x5 : Int32) (mu : XMem) (H : Heap) (locs : List Loc) (ls : Array Slot), lv_has ls 6 [(0, .ref a0), (2, .int x2), (3, .ref a3), (5, .int x5)] → Wd D E (Am m0) s (mT m0) mu H locs → f_X9_read_h62 a0 x2 a3 k118 k129 n x5 mu = some (rE, mE) → W p l e (rmN 6 0 0) s m args below meth c H locs 0 0 (MQ below (XQ D E (Am m0) (some (.int rE)) mE (mT mE = mT m0 ∧ True)) args s 0 0 (Am m0)) (F0 m 62 ls []) := by
  have hx := C.1
  have hb := C.2.1
  intro n
  induction n with
  | zero =>
    intros
    rename_i hf
    cases hf
  | succ n ih =>
    intro x5 mu H locs ls hl hw hf
    rw [f_X9_read_h62] at hf
    refine lv_iload hx hb dX9_read_62 (lv_at hl 3 rfl) ?_
    refine lv_aload_n hx hb dX9_read_64 rfl (lv_at hl 2 rfl) ?_
    refine x_getI C hw fa_X9_319 ta3 dX9_read_65 ?_
    refine lv_icmp_ge (tgt := 129) hx hb dX9_read_68 (by decide) (fun c => ?_) (fun c => ?_)
    · have hf := ifp hf c
      exact hk129 _ _ _ _ (lv_sub hl [] rfl) hw hf
    · have hf := ifn hf c
      refine lv_aload_n hx hb dX9_read_71 rfl (lv_at hl 0 rfl) ?_
      obtain ⟨b119, eb119, hf⟩ := fo_el hf
      refine x_getR C hw fa_X9_10 (Or.inl ⟨_, rfl⟩) ta0 eb119 dX9_read_72 (fun tb119 => ?_)
      have tb119 : (mT m0) b119 = some (.inl 8) := tb119
      refine lv_aload_n hx hb dX9_read_75 rfl (lv_at hl 0 rfl) ?_
      obtain ⟨b120, eb120, hf⟩ := fo_el hf
      refine x_getR C hw fa_X9_50 (Or.inl ⟨_, rfl⟩) ta0 eb120 dX9_read_76 (fun tb120 => ?_)
      have tb120 : (mT m0) b120 = some (.inl 0) := tb120
      refine lv_iload_n hx hb dX9_read_79 rfl (lv_at hl 1 rfl) ?_
      refine lv_aload_n hx hb dX9_read_80 rfl (lv_at hl 0 rfl) ?_
      obtain ⟨b121, eb121, hf⟩ := fo_el hf
      refine x_getR C hw fa_X9_10 (Or.inl ⟨_, rfl⟩) ta0 eb121 dX9_read_81 (fun tb121 => ?_)
      have tb121 : (mT m0) b121 = some (.inl 8) := tb121
      refine x_getI C hw fa_X9_194 tb121 dX9_read_84 ?_
      refine lv_aload_n hx hb dX9_read_87 rfl (lv_at hl 0 rfl) ?_
      obtain ⟨b122, eb122, hf⟩ := fo_el hf
      refine x_getR C hw fa_X9_10 (Or.inl ⟨_, rfl⟩) ta0 eb122 dX9_read_88 (fun tb122 => ?_)
      have tb122 : (mT m0) b122 = some (.inl 8) := tb122
      refine x_getI C hw fa_X9_106 tb122 dX9_read_91 ?_
      refine lv_iload hx hb dX9_read_94 (lv_at hl 3 rfl) ?_
      refine lv_iadd hx hb dX9_read_96 ?_
      obtain ⟨m123, cm123, hf⟩ := b1_el (o := f_X8_warm b119 b120 x2 (mI mu b121 4) ((mI mu b122 0) + x5) mu) hf
      refine x_callVv (As := [.ref b120, .int x2, .int (mI mu b121 4), .int ((mI mu b122 0) + x5)]) (rest := []) C hl.1 hw cb_X9_297 cv_X8_warm (k_X8_warm hw.2.2.2.2 tb119 tb120 cm123) tb119 rfl rfl (by decide) ⟨Nat.le_refl _, Nat.le_refl _⟩ rfl (Nat.le_of_ble_eq_true rfl) dX9_read_97 (fun H locs hw tm123 => ?_)
      refine lv_aload_n hx hb dX9_read_100 rfl (lv_at hl 2 rfl) ?_
      refine lv_iload hx hb dX9_read_101 (lv_at hl 3 rfl) ?_
      obtain ⟨l125, m124, cm124, hf⟩ := b2_el (o := f_X4_numberAt a3 x5 m123) hf
      refine x_callVl (As := [.int x5]) (rest := []) C hl.1 hw cb_X9_320 cv_X4_numberAt (k_X4_numberAt hw.2.2.2.2 ta3 cm124) ta3 rfl rfl (by decide) ⟨Nat.le_refl _, Nat.le_refl _⟩ rfl (Nat.le_of_ble_eq_true rfl) dX9_read_103 (fun H locs hw tl125 => ?_)
      refine lv_aload_n hx hb dX9_read_106 rfl (lv_at hl 0 rfl) ?_
      obtain ⟨b126, eb126, hf⟩ := fo_el hf
      refine x_getR C hw fa_X9_50 (Or.inl ⟨_, rfl⟩) ta0 eb126 dX9_read_107 (fun tb126 => ?_)
      have tb126 : (mT m0) b126 = some (.inl 0) := tb126
      obtain ⟨r128, m127, cm127, hf⟩ := b2_el (o := f_X0_thermometer b126 m124) hf
      refine x_callVi (As := []) (rest := [.long l125]) C hl.1 hw cb_X9_122 cv_X0_thermometer (k_X0_thermometer hw.2.2.2.2 tb126 cm127) tb126 rfl rfl (by decide) ⟨Nat.le_refl _, Nat.le_refl _⟩ rfl (Nat.le_of_ble_eq_true rfl) dX9_read_110 (fun H locs hw tr128 => ?_)
      refine lv_i2l (v := (Int32.toInt64 r128)) hx hb dX9_read_113 rfl ?_
      refine W.lcmp hx hb dX9_read_114 ?_
      refine lv_if_eq (tgt := 123) hx hb dX9_read_115 (by decide) (fun c => ?_) (fun c => ?_)
      · have hf := ifp hf c
        obtain ⟨x129, ex129⟩ : ∃ z : Int32, z = x5 + 1 := ⟨_, rfl⟩
        have hf := nm_el hf ex129
        refine lv_iinc (v := x129) (lv' := [(5, .int x129), (0, .ref a0), (2, .int x2), (3, .ref a3)]) hx hb dX9_read_123 hl (k := 3) rfl (by rw [ex129, ki_1]) (by decide) rfl (fun ls hl => ?_)
        refine lv_goto (tgt := 62) hx hb dX9_read_126 (by decide) ?_
        exact ih _ _ _ _ _ (lv_sub hl [1, 2, 3, 0] rfl) hw hf
      · have hf := ifn hf c
        exact hk118 _ _ _ _ _ (lv_sub hl [3] rfl) hw hf
set_option maxHeartbeats 4000000 in
set_option maxRecDepth 100000 in
theorem k_X9_read {l : Launch} {D : va_G} {E : Nat → ClassId} {tU : Nat} {τ : Nat → Option XTy} {a0 : Nat} {x1 : Int32} {x2 : Int32} {m0 mE : XMem} {rE : Int32} (hm : mT m0 = τ) (ta0 : τ a0 = some (.inl 9)) (hf : f_X9_read a0 x1 x2 m0 = some (rE, mE)) : Ct l yX9_read cX9_read 6 ((Option.some FieldType.int)) 6 0 0 D E tU [.ref a0, .int x1, .int x2] m0 (some (.int rE)) mE (mT mE = mT m0 ∧ True) := by
  subst hm
  refine Ct.of (by decide) (Nat.le_of_ble_eq_true rfl) (fun p e s m below meth c ls C hr hk hnm hl hw => ?_)
  have hx := C.1
  have hb := C.2.1
  have hl : lv_has ls 6 [(0, .ref a0), (1, .int x1), (2, .int x2)] := hl
  unfold f_X9_read at hf
  refine lv_aload_n hx hb dX9_read_0 rfl (lv_at hl 0 rfl) ?_
  refine lv_iload_n hx hb dX9_read_1 rfl (lv_at hl 1 rfl) ?_
  obtain ⟨o102, m101, cm101, hf⟩ := b2_el (o := f_X9_sheetAt a0 x1 m0) hf
  have hmp := hw.2.2.2.2
  refine x_callVq (As := [.int x1]) (rest := []) C hl.1 hw cb_X9_312 cv_X9_sheetAt (k_X9_sheetAt hw.2.2.2.2 ta0 cm101) ta0 rfl rfl (by decide) ⟨Nat.le_refl _, Nat.le_refl _⟩ rfl (Nat.le_of_ble_eq_true rfl) dX9_read_2 (fun H locs hw to102 => ?_)
  have to102 : ∀ b, o102 = some b → (mT m0) b = some (.inl 4) := fun b h => by have q := to102 b h; rw [hmp] at q; exact q
  refine x_astore_nQ (lv' := [(3, va_rf o102), (0, .ref a0), (1, .int x1), (2, .int x2)]) hx hb dX9_read_5 rfl hl (by decide) rfl (fun ls hl => ?_)
  refine x_aload_nQ hx hb dX9_read_6 rfl (lv_at hl 0 rfl) ?_
  cases o102 with
  | none =>
    have hf := oc_n hf
    refine lv_ifnonnullN hx hb dX9_read_7 ?_
    refine lv_aload_n hx hb dX9_read_10 rfl (lv_at hl 1 rfl) ?_
    refine lv_iconst hx hb dX9_read_11 ki_0 ?_
    obtain ⟨r105, m104, cm104, hf⟩ := b2_el (o := f_X9_finding a0 0 m101) hf
    refine x_callVi (As := [.int 0]) (rest := []) C hl.1 hw cb_X9_63 cv_X9_finding (k_X9_finding hw.2.2.2.2 ta0 cm104) ta0 rfl rfl (by decide) ⟨Nat.le_refl _, Nat.le_refl _⟩ rfl (Nat.le_of_ble_eq_true rfl) dX9_read_12 (fun H locs hw tr105 => ?_)
    exact x_retI C hr hk hw  hf (by decide) (by decide) dX9_read_15
  | some b103 =>
    have hf := oc_s hf
    have tb103 := to102 b103 rfl
    refine lv_ifnonnull (tgt := 16) hx hb dX9_read_7 (by decide) ?_
    refine lv_aload_n hx hb dX9_read_16 rfl (lv_at hl 0 rfl) ?_
    refine x_getI C hw fa_X9_316 tb103 dX9_read_17 ?_
    refine lv_if_ne (tgt := 29) hx hb dX9_read_20 (by decide) (fun c => ?_) (fun c => ?_)
    · have hf := ifn hf c
      refine lv_aload_n hx hb dX9_read_29 rfl (lv_at hl 1 rfl) ?_
      obtain ⟨b106, eb106, hf⟩ := fo_el hf
      refine x_getR C hw fa_X9_10 (Or.inl ⟨_, rfl⟩) ta0 eb106 dX9_read_30 (fun tb106 => ?_)
      have tb106 : (mT m0) b106 = some (.inl 8) := tb106
      refine lv_iload_n hx hb dX9_read_33 rfl (lv_at hl 3 rfl) ?_
      obtain ⟨o108, m107, cm107, hf⟩ := b2_el (o := f_X8_cellAt b106 x2 m101) hf
      have hmp := hw.2.2.2.2
      refine x_callVq (As := [.int x2]) (rest := []) C hl.1 hw cb_X9_96 cv_X8_cellAt (k_X8_cellAt hw.2.2.2.2 tb106 cm107) tb106 rfl rfl (by decide) ⟨Nat.le_refl _, Nat.le_refl _⟩ rfl (Nat.le_of_ble_eq_true rfl) dX9_read_34 (fun H locs hw to108 => ?_)
      have to108 : ∀ b, o108 = some b → (mT m0) b = some (.inl 0) := fun b h => by have q := to108 b h; rw [hmp] at q; exact q
      refine x_astoreQ (lv' := [(4, va_rf o108), (3, .ref b103), (0, .ref a0), (1, .int x1), (2, .int x2)]) hx hb dX9_read_37 hl (by decide) rfl (fun ls hl => ?_)
      refine x_aloadQ hx hb dX9_read_39 (lv_at hl 0 rfl) ?_
      cases o108 with
      | none =>
        have hf := oc_n hf
        refine lv_ifnonnullN hx hb dX9_read_41 ?_
        refine lv_aload_n hx hb dX9_read_44 rfl (lv_at hl 2 rfl) ?_
        refine lv_iconst hx hb dX9_read_45 ki_0 ?_
        obtain ⟨r111, m110, cm110, hf⟩ := b2_el (o := f_X9_finding a0 0 m107) hf
        refine x_callVi (As := [.int 0]) (rest := []) C hl.1 hw cb_X9_63 cv_X9_finding (k_X9_finding hw.2.2.2.2 ta0 cm110) ta0 rfl rfl (by decide) ⟨Nat.le_refl _, Nat.le_refl _⟩ rfl (Nat.le_of_ble_eq_true rfl) dX9_read_46 (fun H locs hw tr111 => ?_)
        exact x_retI C hr hk hw  hf (by decide) (by decide) dX9_read_49
      | some b109 =>
        have hf := oc_s hf
        have tb109 := to108 b109 rfl
        refine lv_ifnonnull (tgt := 50) hx hb dX9_read_41 (by decide) ?_
        refine lv_aload_n hx hb dX9_read_50 rfl (lv_at hl 2 rfl) ?_
        obtain ⟨b112, eb112, hf⟩ := fo_el hf
        refine x_getR C hw fa_X9_50 (Or.inl ⟨_, rfl⟩) ta0 eb112 dX9_read_51 (fun tb112 => ?_)
        have tb112 : (mT m0) b112 = some (.inl 0) := tb112
        refine lv_aload hx hb dX9_read_54 (lv_at hl 0 rfl) ?_
        obtain ⟨m113, cm113, hf⟩ := b1_el (o := f_X0_take b112 b109 m107) hf
        refine x_callVv (As := [.ref b109]) (rest := []) C hl.1 hw cb_X9_289 cv_X0_take (k_X0_take hw.2.2.2.2 tb112 tb109 cm113) tb112 rfl rfl (by decide) ⟨Nat.le_refl _, Nat.le_refl _⟩ rfl (Nat.le_of_ble_eq_true rfl) dX9_read_56 (fun H locs hw tm113 => ?_)
        refine lv_iconst hx hb dX9_read_59 ki_0 ?_
        refine lv_istore (lv' := [(5, .int 0), (4, .ref b109), (3, .ref b103), (0, .ref a0), (1, .int x1), (2, .int x2)]) hx hb dX9_read_60 hl (by decide) rfl (fun ls hl => ?_)
        refine w_X9_read_h62 C hr hk hnm ta0 tb103 ?_ ?_ 2000 _ _ _ _ _ (lv_sub hl [3, 5, 2, 0] rfl) hw hf
        · intro x115 m114 H locs ls hl hw hf
          refine lv_iload hx hb dX9_read_118 (lv_at hl 0 rfl) ?_
          refine lv_iconst hx hb dX9_read_120 ki_1 ?_
          refine lv_iadd hx hb dX9_read_121 ?_
          exact x_retI C hr hk hw  hf (by decide) (by decide) dX9_read_122
        · intro m116 H locs ls hl hw hf
          refine lv_iconst hx hb dX9_read_129 ki_0 ?_
          exact x_retI C hr hk hw  hf (by decide) (by decide) dX9_read_130
    · have hf := ifp hf c
      refine lv_aload_n hx hb dX9_read_23 rfl (lv_at hl 1 rfl) ?_
      refine lv_iconst hx hb dX9_read_24 ki_5 ?_
      obtain ⟨r118, m117, cm117, hf⟩ := b2_el (o := f_X9_finding a0 5 m101) hf
      refine x_callVi (As := [.int 5]) (rest := []) C hl.1 hw cb_X9_63 cv_X9_finding (k_X9_finding hw.2.2.2.2 ta0 cm117) ta0 rfl rfl (by decide) ⟨Nat.le_refl _, Nat.le_refl _⟩ rfl (Nat.le_of_ble_eq_true rfl) dX9_read_25 (fun H locs hw tr118 => ?_)
      exact x_retI C hr hk hw  hf (by decide) (by decide) dX9_read_28
set_option maxHeartbeats 4000000 in
set_option maxRecDepth 100000 in
theorem w_X9_saying_h19 {p : Program} {l : Launch} {e : Env} {s : State} {m : MethodId} {args : Array Value} {below : List Frame} {meth : Method} {c : Code} {D : va_G} {E : Nat → ClassId} {tU : Nat} {m0 mE : XMem} {rE : Int32} (C : Cx p s m args c cX9_saying 5 RX9 D E (Am m0) tU) (hr : meth.sig.returnType = ((Option.some FieldType.int))) (hk : meth.locks = false) (hnm : meth.name = yX9_saying.name) {a0 : Nat} {x1 : Int32} (ta0 : mT m0 a0 = some (.inl 9)) {k66 : Int32 →  XMem → Option (Int32 × XMem)} (hk66 : ∀ (y2 : Int32) (mu : XMem) (H : Heap) (locs : List Loc) (ls : Array Slot), lv_has ls 5 [(2, .int y2)] → Wd D E (Am m0) s (mT m0) mu H locs →   k66 y2 mu = some (rE, mE) → W p l e (rmN 2 0 0) s m args below meth c H locs 0 0 (MQ below (XQ D E (Am m0) (some (.int rE)) mE (mT mE = mT m0 ∧ True)) args s 0 0 (Am m0)) (F0 m 66 ls [])) : ∀ (n : Nat) (x2 : Int32) (x3 : Int32) (mu : XMem) (H : Heap) (locs : List Loc) (ls : Array Slot), lv_has ls 5 [(0, .ref a0), (1, .int x1), (2, .int x2), (3, .int x3)] → Wd D E (Am m0) s (mT m0) mu H locs → f_X9_saying_h19 a0 x1 k66 n x2 x3 mu = some (rE, mE) → W p l e (rmN 2 0 0) s m args below meth c H locs 0 0 (MQ below (XQ D E (Am m0) (some (.int rE)) mE (mT mE = mT m0 ∧ True)) args s 0 0 (Am m0)) (F0 m 19 ls []) := by
  have hx := C.1
  have hb := C.2.1
  intro n
  induction n with
  | zero =>
    intros
    rename_i hf
    cases hf
  | succ n ih =>
    intro x2 x3 mu H locs ls hl hw hf
    rw [f_X9_saying_h19] at hf
    refine lv_iload_n hx hb dX9_saying_19 rfl (lv_at hl 3 rfl) ?_
    refine lv_aload_n hx hb dX9_saying_20 rfl (lv_at hl 0 rfl) ?_
    obtain ⟨b107, eb107, hf⟩ := fo_el hf
    refine x_getR C hw fa_X9_10 (Or.inl ⟨_, rfl⟩) ta0 eb107 dX9_saying_21 (fun tb107 => ?_)
    have tb107 : (mT m0) b107 = some (.inl 8) := tb107
    refine x_getI C hw fa_X9_233 tb107 dX9_saying_24 ?_
    refine lv_icmp_ge (tgt := 66) hx hb dX9_saying_27 (by decide) (fun c => ?_) (fun c => ?_)
    · have hf := ifp hf c
      exact hk66 _ _ _ _ _ (lv_sub hl [2] rfl) hw hf
    · have hf := ifn hf c
      refine lv_aload_n hx hb dX9_saying_30 rfl (lv_at hl 0 rfl) ?_
      obtain ⟨b108, eb108, hf⟩ := fo_el hf
      refine x_getR C hw fa_X9_10 (Or.inl ⟨_, rfl⟩) ta0 eb108 dX9_saying_31 (fun tb108 => ?_)
      have tb108 : (mT m0) b108 = some (.inl 8) := tb108
      refine lv_iload_n hx hb dX9_saying_34 rfl (lv_at hl 3 rfl) ?_
      obtain ⟨o110, m109, cm109, hf⟩ := b2_el (o := f_X8_houseAt b108 x3 mu) hf
      have hmp := hw.2.2.2.2
      refine x_callVq (As := [.int x3]) (rest := []) C hl.1 hw cb_X9_236 cv_X8_houseAt (k_X8_houseAt hw.2.2.2.2 tb108 cm109) tb108 rfl rfl (by decide) ⟨Nat.le_refl _, Nat.le_refl _⟩ rfl (Nat.le_of_ble_eq_true rfl) dX9_saying_35 (fun H locs hw to110 => ?_)
      have to110 : ∀ b, o110 = some b → (mT m0) b = some (.inl 1) := fun b h => by have q := to110 b h; rw [hmp] at q; exact q
      refine x_astoreQ (lv' := [(4, va_rf o110), (0, .ref a0), (1, .int x1), (2, .int x2), (3, .int x3)]) hx hb dX9_saying_38 hl (by decide) rfl (fun ls hl => ?_)
      refine x_aloadQ hx hb dX9_saying_40 (lv_at hl 0 rfl) ?_
      cases o110 with
      | none =>
        have hf := oc_n hf
        refine lv_ifnullN (tgt := 60) hx hb dX9_saying_42 (by decide) ?_
        obtain ⟨x112, ex112⟩ : ∃ z : Int32, z = x3 + 1 := ⟨_, rfl⟩
        have hf := nm_el hf ex112
        refine lv_iinc (v := x112) (lv' := [(3, .int x112), (4, .null), (0, .ref a0), (1, .int x1), (2, .int x2)]) hx hb dX9_saying_60 hl (k := 4) rfl (by rw [ex112, ki_1]) (by decide) rfl (fun ls hl => ?_)
        refine lv_goto (tgt := 19) hx hb dX9_saying_63 (by decide) ?_
        exact ih _ _ _ _ _ _ (lv_sub hl [2, 3, 4, 0] rfl) hw hf
      | some b111 =>
        have hf := oc_s hf
        have tb111 := to110 b111 rfl
        refine lv_ifnull hx hb dX9_saying_42 ?_
        refine lv_aload hx hb dX9_saying_45 (lv_at hl 0 rfl) ?_
        refine x_getI C hw fa_X9_260 tb111 dX9_saying_47 ?_
        refine lv_iload_n hx hb dX9_saying_50 rfl (lv_at hl 2 rfl) ?_
        refine lv_icmp_ne (tgt := 60) hx hb dX9_saying_51 (by decide) (fun c => ?_) (fun c => ?_)
        · have hf := ifn hf c
          obtain ⟨x113, ex113⟩ : ∃ z : Int32, z = x3 + 1 := ⟨_, rfl⟩
          have hf := nm_el hf ex113
          refine lv_iinc (v := x113) (lv' := [(3, .int x113), (4, .ref b111), (0, .ref a0), (1, .int x1), (2, .int x2)]) hx hb dX9_saying_60 hl (k := 4) rfl (by rw [ex113, ki_1]) (by decide) rfl (fun ls hl => ?_)
          refine lv_goto (tgt := 19) hx hb dX9_saying_63 (by decide) ?_
          exact ih _ _ _ _ _ _ (lv_sub hl [2, 3, 4, 0] rfl) hw hf
        · have hf := ifp hf c
          refine lv_iload_n hx hb dX9_saying_54 rfl (lv_at hl 3 rfl) ?_
          refine lv_iconst hx hb dX9_saying_55 ki_1 ?_
          refine lv_iload_n hx hb dX9_saying_56 rfl (lv_at hl 4 rfl) ?_
          refine lv_ishl hx hb dX9_saying_57 ?_
          refine lv_ior hx hb dX9_saying_58 ?_
          refine lv_topi (fun x114 ex114 => ?_)
          have hf := nm_el hf ex114
          refine lv_istore_n (lv' := [(2, .int x114), (4, .ref b111), (0, .ref a0), (1, .int x1), (3, .int x3)]) hx hb dX9_saying_59 rfl hl (by decide) rfl (fun ls hl => ?_)
          obtain ⟨x115, ex115⟩ : ∃ z : Int32, z = x3 + 1 := ⟨_, rfl⟩
          have hf := nm_el hf ex115
          refine lv_iinc (v := x115) (lv' := [(3, .int x115), (2, .int x114), (4, .ref b111), (0, .ref a0), (1, .int x1)]) hx hb dX9_saying_60 hl (k := 4) rfl (by rw [ex115, ki_1]) (by decide) rfl (fun ls hl => ?_)
          refine lv_goto (tgt := 19) hx hb dX9_saying_63 (by decide) ?_
          exact ih _ _ _ _ _ _ (lv_sub hl [3, 4, 1, 0] rfl) hw hf
set_option maxHeartbeats 4000000 in
set_option maxRecDepth 100000 in
theorem k_X9_saying {l : Launch} {D : va_G} {E : Nat → ClassId} {tU : Nat} {τ : Nat → Option XTy} {a0 : Nat} {x1 : Int32} {m0 mE : XMem} {rE : Int32} (hm : mT m0 = τ) (ta0 : τ a0 = some (.inl 9)) (hf : f_X9_saying a0 x1 m0 = some (rE, mE)) : Ct l yX9_saying cX9_saying 5 ((Option.some FieldType.int)) 2 0 0 D E tU [.ref a0, .int x1] m0 (some (.int rE)) mE (mT mE = mT m0 ∧ True) := by
  subst hm
  refine Ct.of (by decide) (Nat.le_of_ble_eq_true rfl) (fun p e s m below meth c ls C hr hk hnm hl hw => ?_)
  have hx := C.1
  have hb := C.2.1
  have hl : lv_has ls 5 [(0, .ref a0), (1, .int x1)] := hl
  unfold f_X9_saying at hf
  refine lv_iload_n hx hb dX9_saying_0 rfl (lv_at hl 1 rfl) ?_
  refine lv_iconst hx hb dX9_saying_1 ki_0 ?_
  refine lv_iconst hx hb dX9_saying_2 ki_2 ?_
  obtain ⟨r102, m101, cm101, hf⟩ := b2_el (o := f_X9_within x1 0 2 m0) hf
  refine x_callSi (As := [.int x1, .int 0, .int 2]) (rest := []) C hl.1 hw cb_X9_59 cs_X9_within (k_X9_within hw.2.2.2.2  cm101) rfl (by decide) ⟨Nat.le_refl _, Nat.le_refl _⟩ rfl (Nat.le_of_ble_eq_true rfl) dX9_saying_3 (fun H locs hw tr102 => ?_)
  refine lv_if_ne (tgt := 15) hx hb dX9_saying_6 (by decide) (fun c => ?_) (fun c => ?_)
  · have hf := ifn hf c
    refine lv_iconst hx hb dX9_saying_15 ki_0 ?_
    refine lv_istore_n (lv' := [(2, .int 0), (0, .ref a0), (1, .int x1)]) hx hb dX9_saying_16 rfl hl (by decide) rfl (fun ls hl => ?_)
    refine lv_iconst hx hb dX9_saying_17 ki_0 ?_
    refine lv_istore_n (lv' := [(3, .int 0), (2, .int 0), (0, .ref a0), (1, .int x1)]) hx hb dX9_saying_18 rfl hl (by decide) rfl (fun ls hl => ?_)
    refine w_X9_saying_h19 C hr hk hnm ta0 ?_ 2000 _ _ _ _ _ _ (lv_sub hl [2, 3, 1, 0] rfl) hw hf
    intro x104 m103 H locs ls hl hw hf
    refine lv_iload_n hx hb dX9_saying_66 rfl (lv_at hl 0 rfl) ?_
    exact x_retI C hr hk hw  hf (by decide) (by decide) dX9_saying_67
  · have hf := ifp hf c
    refine lv_aload_n hx hb dX9_saying_9 rfl (lv_at hl 0 rfl) ?_
    refine lv_iconst hx hb dX9_saying_10 ki_0 ?_
    obtain ⟨r106, m105, cm105, hf⟩ := b2_el (o := f_X9_finding a0 0 m101) hf
    refine x_callVi (As := [.int 0]) (rest := []) C hl.1 hw cb_X9_63 cv_X9_finding (k_X9_finding hw.2.2.2.2 ta0 cm105) ta0 rfl rfl (by decide) ⟨Nat.le_refl _, Nat.le_refl _⟩ rfl (Nat.le_of_ble_eq_true rfl) dX9_saying_11 (fun H locs hw tr106 => ?_)
    exact x_retI C hr hk hw  hf (by decide) (by decide) dX9_saying_14
set_option maxHeartbeats 4000000 in
set_option maxRecDepth 100000 in
theorem k_X9_says {l : Launch} {D : va_G} {E : Nat → ClassId} {tU : Nat} {τ : Nat → Option XTy} {a0 : Nat} {x1 : Int32} {x2 : Int32} {m0 mE : XMem} {rE : Int32} (hm : mT m0 = τ) (ta0 : τ a0 = some (.inl 9)) (hf : f_X9_says a0 x1 x2 m0 = some (rE, mE)) : Ct l yX9_says cX9_says 4 ((Option.some FieldType.int)) 5 0 0 D E tU [.ref a0, .int x1, .int x2] m0 (some (.int rE)) mE (mT mE = mT m0 ∧ True) := by
  subst hm
  refine Ct.of (by decide) (Nat.le_of_ble_eq_true rfl) (fun p e s m below meth c ls C hr hk hnm hl hw => ?_)
  have hx := C.1
  have hb := C.2.1
  have hl : lv_has ls 4 [(0, .ref a0), (1, .int x1), (2, .int x2)] := hl
  unfold f_X9_says at hf
  refine lv_aload_n hx hb dX9_says_0 rfl (lv_at hl 0 rfl) ?_
  obtain ⟨b101, eb101, hf⟩ := fo_el hf
  refine x_getR C hw fa_X9_10 (Or.inl ⟨_, rfl⟩) ta0 eb101 dX9_says_1 (fun tb101 => ?_)
  have tb101 : (mT m0) b101 = some (.inl 8) := tb101
  refine lv_iload_n hx hb dX9_says_4 rfl (lv_at hl 2 rfl) ?_
  obtain ⟨o103, m102, cm102, hf⟩ := b2_el (o := f_X8_cellAt b101 x2 m0) hf
  have hmp := hw.2.2.2.2
  refine x_callVq (As := [.int x2]) (rest := []) C hl.1 hw cb_X9_96 cv_X8_cellAt (k_X8_cellAt hw.2.2.2.2 tb101 cm102) tb101 rfl rfl (by decide) ⟨Nat.le_refl _, Nat.le_refl _⟩ rfl (Nat.le_of_ble_eq_true rfl) dX9_says_5 (fun H locs hw to103 => ?_)
  have to103 : ∀ b, o103 = some b → (mT m0) b = some (.inl 0) := fun b h => by have q := to103 b h; rw [hmp] at q; exact q
  refine x_astore_nQ (lv' := [(3, va_rf o103), (0, .ref a0), (1, .int x1), (2, .int x2)]) hx hb dX9_says_8 rfl hl (by decide) rfl (fun ls hl => ?_)
  refine x_aload_nQ hx hb dX9_says_9 rfl (lv_at hl 0 rfl) ?_
  cases o103 with
  | none =>
    have hf := oc_n hf
    refine lv_ifnullN (tgt := 22) hx hb dX9_says_10 (by decide) ?_
    refine lv_aload_n hx hb dX9_says_22 rfl (lv_at hl 1 rfl) ?_
    refine lv_iconst hx hb dX9_says_23 ki_0 ?_
    obtain ⟨r106, m105, cm105, hf⟩ := b2_el (o := f_X9_finding a0 0 m102) hf
    refine x_callVi (As := [.int 0]) (rest := []) C hl.1 hw cb_X9_63 cv_X9_finding (k_X9_finding hw.2.2.2.2 ta0 cm105) ta0 rfl rfl (by decide) ⟨Nat.le_refl _, Nat.le_refl _⟩ rfl (Nat.le_of_ble_eq_true rfl) dX9_says_24 (fun H locs hw tr106 => ?_)
    exact x_retI C hr hk hw  hf (by decide) (by decide) dX9_says_27
  | some b104 =>
    have hf := oc_s hf
    have tb104 := to103 b104 rfl
    refine lv_ifnull hx hb dX9_says_10 ?_
    refine lv_iload_n hx hb dX9_says_13 rfl (lv_at hl 2 rfl) ?_
    refine lv_iconst hx hb dX9_says_14 ki_0 ?_
    refine lv_iconst hx hb dX9_says_15 ki_1 ?_
    obtain ⟨r108, m107, cm107, hf⟩ := b2_el (o := f_X9_within x1 0 1 m102) hf
    refine x_callSi (As := [.int x1, .int 0, .int 1]) (rest := []) C hl.1 hw cb_X9_59 cs_X9_within (k_X9_within hw.2.2.2.2  cm107) rfl (by decide) ⟨Nat.le_refl _, Nat.le_refl _⟩ rfl (Nat.le_of_ble_eq_true rfl) dX9_says_16 (fun H locs hw tr108 => ?_)
    refine lv_if_ne (tgt := 28) hx hb dX9_says_19 (by decide) (fun c => ?_) (fun c => ?_)
    · have hf := ifn hf c
      refine lv_iload_n hx hb dX9_says_28 rfl (lv_at hl 2 rfl) ?_
      refine lv_if_ne (tgt := 51) hx hb dX9_says_29 (by decide) (fun c => ?_) (fun c => ?_)
      · have hf := ifn hf c
        refine lv_aload_n hx hb dX9_says_51 rfl (lv_at hl 1 rfl) ?_
        obtain ⟨b109, eb109, hf⟩ := fo_el hf
        refine x_getR C hw fa_X9_10 (Or.inl ⟨_, rfl⟩) ta0 eb109 dX9_says_52 (fun tb109 => ?_)
        have tb109 : (mT m0) b109 = some (.inl 8) := tb109
        refine lv_aload_n hx hb dX9_says_55 rfl (lv_at hl 0 rfl) ?_
        refine lv_iload_n hx hb dX9_says_56 rfl (lv_at hl 3 rfl) ?_
        refine lv_aload_n hx hb dX9_says_57 rfl (lv_at hl 1 rfl) ?_
        obtain ⟨b110, eb110, hf⟩ := fo_el hf
        refine x_getR C hw fa_X9_10 (Or.inl ⟨_, rfl⟩) ta0 eb110 dX9_says_58 (fun tb110 => ?_)
        have tb110 : (mT m0) b110 = some (.inl 8) := tb110
        refine x_getI C hw fa_X9_106 tb110 dX9_says_61 ?_
        obtain ⟨r112, m111, cm111, hf⟩ := b2_el (o := f_X8_choiceOf b109 b104 x2 (mI m107 b110 0) m107) hf
        refine x_callVi (As := [.ref b104, .int x2, .int (mI m107 b110 0)]) (rest := []) C hl.1 hw cb_X9_209 cv_X8_choiceOf (k_X8_choiceOf hw.2.2.2.2 tb109 tb104 cm111) tb109 rfl rfl (by decide) ⟨Nat.le_refl _, Nat.le_refl _⟩ rfl (Nat.le_of_ble_eq_true rfl) dX9_says_64 (fun H locs hw tr112 => ?_)
        exact x_retI C hr hk hw  hf (by decide) (by decide) dX9_says_67
      · have hf := ifp hf c
        refine lv_aload_n hx hb dX9_says_32 rfl (lv_at hl 1 rfl) ?_
        obtain ⟨b113, eb113, hf⟩ := fo_el hf
        refine x_getR C hw fa_X9_10 (Or.inl ⟨_, rfl⟩) ta0 eb113 dX9_says_33 (fun tb113 => ?_)
        have tb113 : (mT m0) b113 = some (.inl 8) := tb113
        refine lv_aload_n hx hb dX9_says_36 rfl (lv_at hl 0 rfl) ?_
        refine lv_iload_n hx hb dX9_says_37 rfl (lv_at hl 3 rfl) ?_
        refine lv_aload_n hx hb dX9_says_38 rfl (lv_at hl 1 rfl) ?_
        obtain ⟨b114, eb114, hf⟩ := fo_el hf
        refine x_getR C hw fa_X9_10 (Or.inl ⟨_, rfl⟩) ta0 eb114 dX9_says_39 (fun tb114 => ?_)
        have tb114 : (mT m0) b114 = some (.inl 8) := tb114
        refine x_getI C hw fa_X9_106 tb114 dX9_says_42 ?_
        obtain ⟨r116, m115, cm115, hf⟩ := b2_el (o := f_X8_floorOf b113 b104 x2 (mI m107 b114 0) m107) hf
        refine x_callVi (As := [.ref b104, .int x2, .int (mI m107 b114 0)]) (rest := []) C hl.1 hw cb_X9_205 cv_X8_floorOf (k_X8_floorOf hw.2.2.2.2 tb113 tb104 cm115) tb113 rfl rfl (by decide) ⟨Nat.le_refl _, Nat.le_refl _⟩ rfl (Nat.le_of_ble_eq_true rfl) dX9_says_45 (fun H locs hw tr116 => ?_)
        refine lv_goto (tgt := 67) hx hb dX9_says_48 (by decide) ?_
        exact x_retI C hr hk hw  hf (by decide) (by decide) dX9_says_67
    · have hf := ifp hf c
      refine lv_aload_n hx hb dX9_says_22 rfl (lv_at hl 1 rfl) ?_
      refine lv_iconst hx hb dX9_says_23 ki_0 ?_
      obtain ⟨r118, m117, cm117, hf⟩ := b2_el (o := f_X9_finding a0 0 m107) hf
      refine x_callVi (As := [.int 0]) (rest := []) C hl.1 hw cb_X9_63 cv_X9_finding (k_X9_finding hw.2.2.2.2 ta0 cm117) ta0 rfl rfl (by decide) ⟨Nat.le_refl _, Nat.le_refl _⟩ rfl (Nat.le_of_ble_eq_true rfl) dX9_says_24 (fun H locs hw tr118 => ?_)
      exact x_retI C hr hk hw  hf (by decide) (by decide) dX9_says_27
set_option maxHeartbeats 4000000 in
set_option maxRecDepth 100000 in
theorem k_X9_shared {l : Launch} {D : va_G} {E : Nat → ClassId} {tU : Nat} {τ : Nat → Option XTy} {a0 : Nat} {x1 : Int32} {x2 : Int32} {m0 mE : XMem} {rE : Int32} (hm : mT m0 = τ) (ta0 : τ a0 = some (.inl 9)) (hf : f_X9_shared a0 x1 x2 m0 = some (rE, mE)) : Ct l yX9_shared cX9_shared 5 ((Option.some FieldType.int)) 5 0 0 D E tU [.ref a0, .int x1, .int x2] m0 (some (.int rE)) mE (mT mE = mT m0 ∧ True) := by
  subst hm
  refine Ct.of (by decide) (Nat.le_of_ble_eq_true rfl) (fun p e s m below meth c ls C hr hk hnm hl hw => ?_)
  have hx := C.1
  have hb := C.2.1
  have hl : lv_has ls 5 [(0, .ref a0), (1, .int x1), (2, .int x2)] := hl
  unfold f_X9_shared at hf
  refine lv_iload_n hx hb dX9_shared_0 rfl (lv_at hl 1 rfl) ?_
  refine lv_iconst hx hb dX9_shared_1 ki_0 ?_
  refine lv_ldcw hx hb C.2.2.2.1 (C.2.2.2.2.1 _ ki_X9_272) dX9_shared_2 ?_
  obtain ⟨r102, m101, cm101, hf⟩ := b2_el (o := f_X9_within x1 0 999999 m0) hf
  refine x_callSi (As := [.int x1, .int 0, .int 999999]) (rest := []) C hl.1 hw cb_X9_59 cs_X9_within (k_X9_within hw.2.2.2.2  cm101) rfl (by decide) ⟨Nat.le_refl _, Nat.le_refl _⟩ rfl (Nat.le_of_ble_eq_true rfl) dX9_shared_5 (fun H locs hw tr102 => ?_)
  refine lv_if_eq (tgt := 22) hx hb dX9_shared_8 (by decide) (fun c => ?_) (fun c => ?_)
  · have hf := ifp hf c
    refine lv_aload_n hx hb dX9_shared_22 rfl (lv_at hl 0 rfl) ?_
    refine lv_iconst hx hb dX9_shared_23 ki_0 ?_
    obtain ⟨r104, m103, cm103, hf⟩ := b2_el (o := f_X9_finding a0 0 m101) hf
    refine x_callVi (As := [.int 0]) (rest := []) C hl.1 hw cb_X9_63 cv_X9_finding (k_X9_finding hw.2.2.2.2 ta0 cm103) ta0 rfl rfl (by decide) ⟨Nat.le_refl _, Nat.le_refl _⟩ rfl (Nat.le_of_ble_eq_true rfl) dX9_shared_24 (fun H locs hw tr104 => ?_)
    exact x_retI C hr hk hw  hf (by decide) (by decide) dX9_shared_27
  · have hf := ifn hf c
    refine lv_aload_n hx hb dX9_shared_11 rfl (lv_at hl 0 rfl) ?_
    obtain ⟨b105, eb105, hf⟩ := fo_el hf
    refine x_getR C hw fa_X9_10 (Or.inl ⟨_, rfl⟩) ta0 eb105 dX9_shared_12 (fun tb105 => ?_)
    have tb105 : (mT m0) b105 = some (.inl 8) := tb105
    refine lv_iload_n hx hb dX9_shared_15 rfl (lv_at hl 2 rfl) ?_
    obtain ⟨o107, m106, cm106, hf⟩ := b2_el (o := f_X8_houseAt b105 x2 m101) hf
    have hmp := hw.2.2.2.2
    refine x_callVq (As := [.int x2]) (rest := []) C hl.1 hw cb_X9_236 cv_X8_houseAt (k_X8_houseAt hw.2.2.2.2 tb105 cm106) tb105 rfl rfl (by decide) ⟨Nat.le_refl _, Nat.le_refl _⟩ rfl (Nat.le_of_ble_eq_true rfl) dX9_shared_16 (fun H locs hw to107 => ?_)
    have to107 : ∀ b, o107 = some b → (mT m0) b = some (.inl 1) := fun b h => by have q := to107 b h; rw [hmp] at q; exact q
    cases o107 with
    | none =>
      have hf := oc_n hf
      refine lv_ifnonnullN hx hb dX9_shared_19 ?_
      refine lv_aload_n hx hb dX9_shared_22 rfl (lv_at hl 0 rfl) ?_
      refine lv_iconst hx hb dX9_shared_23 ki_0 ?_
      obtain ⟨r110, m109, cm109, hf⟩ := b2_el (o := f_X9_finding a0 0 m106) hf
      refine x_callVi (As := [.int 0]) (rest := []) C hl.1 hw cb_X9_63 cv_X9_finding (k_X9_finding hw.2.2.2.2 ta0 cm109) ta0 rfl rfl (by decide) ⟨Nat.le_refl _, Nat.le_refl _⟩ rfl (Nat.le_of_ble_eq_true rfl) dX9_shared_24 (fun H locs hw tr110 => ?_)
      exact x_retI C hr hk hw  hf (by decide) (by decide) dX9_shared_27
    | some b108 =>
      have hf := oc_s hf
      have tb108 := to107 b108 rfl
      refine lv_ifnonnull (tgt := 28) hx hb dX9_shared_19 (by decide) ?_
      refine lv_aload_n hx hb dX9_shared_28 rfl (lv_at hl 0 rfl) ?_
      obtain ⟨b111, eb111, hf⟩ := fo_el hf
      refine x_getR C hw fa_X9_10 (Or.inl ⟨_, rfl⟩) ta0 eb111 dX9_shared_29 (fun tb111 => ?_)
      have tb111 : (mT m0) b111 = some (.inl 8) := tb111
      obtain ⟨l113, m112, cm112, hf⟩ := b2_el (o := f_X8_allShares b111 m106) hf
      refine x_callVl (As := []) (rest := []) C hl.1 hw cb_X9_273 cv_X8_allShares (k_X8_allShares hw.2.2.2.2 tb111 cm112) tb111 rfl rfl (by decide) ⟨Nat.le_refl _, Nat.le_refl _⟩ rfl (Nat.le_of_ble_eq_true rfl) dX9_shared_32 (fun H locs hw tl113 => ?_)
      refine lv_lstore_n (lv' := [(3, .long l113), (0, .ref a0), (1, .int x1), (2, .int x2)]) hx hb dX9_shared_35 rfl hl (by decide) rfl (fun ls hl => ?_)
      refine lv_lload_n hx hb dX9_shared_36 rfl (lv_at hl 0 rfl) ?_
      refine lv_lconst hx hb dX9_shared_37 kl_0 ?_
      refine W.lcmp hx hb dX9_shared_38 ?_
      refine lv_if_gt (tgt := 48) hx hb dX9_shared_39 (by decide) (fun c => ?_) (fun c => ?_)
      · have hf := ifp hf c
        refine lv_aload_n hx hb dX9_shared_48 rfl (lv_at hl 1 rfl) ?_
        obtain ⟨b114, eb114, hf⟩ := fo_el hf
        refine x_getR C hw fa_X9_10 (Or.inl ⟨_, rfl⟩) ta0 eb114 dX9_shared_49 (fun tb114 => ?_)
        have tb114 : (mT m0) b114 = some (.inl 8) := tb114
        refine lv_iload_n hx hb dX9_shared_52 rfl (lv_at hl 3 rfl) ?_
        refine lv_iload_n hx hb dX9_shared_53 rfl (lv_at hl 2 rfl) ?_
        refine lv_lload_n hx hb dX9_shared_54 rfl (lv_at hl 0 rfl) ?_
        obtain ⟨r116, m115, cm115, hf⟩ := b2_el (o := f_X8_coinsOf b114 x2 x1 l113 m112) hf
        refine x_callVi (As := [.int x2, .int x1, .long l113]) (rest := []) C hl.1 hw cb_X9_276 cv_X8_coinsOf (k_X8_coinsOf hw.2.2.2.2 tb114 cm115) tb114 rfl rfl (by decide) ⟨Nat.le_refl _, Nat.le_refl _⟩ rfl (Nat.le_of_ble_eq_true rfl) dX9_shared_55 (fun H locs hw tr116 => ?_)
        exact x_retI C hr hk hw  hf (by decide) (by decide) dX9_shared_58
      · have hf := ifn hf c
        refine lv_aload_n hx hb dX9_shared_42 rfl (lv_at hl 1 rfl) ?_
        refine lv_iconst hx hb dX9_shared_43 ki_3 ?_
        obtain ⟨r118, m117, cm117, hf⟩ := b2_el (o := f_X9_finding a0 3 m112) hf
        refine x_callVi (As := [.int 3]) (rest := []) C hl.1 hw cb_X9_63 cv_X9_finding (k_X9_finding hw.2.2.2.2 ta0 cm117) ta0 rfl rfl (by decide) ⟨Nat.le_refl _, Nat.le_refl _⟩ rfl (Nat.le_of_ble_eq_true rfl) dX9_shared_44 (fun H locs hw tr118 => ?_)
        exact x_retI C hr hk hw  hf (by decide) (by decide) dX9_shared_47
set_option maxHeartbeats 4000000 in
set_option maxRecDepth 100000 in
theorem w_X9_sheet_j40 {p : Program} {l : Launch} {e : Env} {s : State} {m : MethodId} {args : Array Value} {below : List Frame} {meth : Method} {c : Code} {D : va_G} {E : Nat → ClassId} {tU : Nat} {m0 mE : XMem} {rE : Int32} (C : Cx p s m args c cX9_sheet 5 RX9 D E (Am m0) tU) (hr : meth.sig.returnType = ((Option.some FieldType.int))) (hk : meth.locks = false) (hnm : meth.name = yX9_sheet.name) {a0 : Nat} {x2 : Int32} {x3 : Int32} {a4 : Nat} {mu : XMem} {H : Heap} {locs : List Loc} {ls : Array Slot} (ta0 : mT m0 a0 = some (.inl 9)) (ta4 : mT m0 a4 = some (.inl 4)) (hl : lv_has ls 5 [(0, .ref a0), (2, .int x2), (3, .int x3), (4, .ref a4)]) (hw : Wd D E (Am m0) s (mT m0) mu H locs) (hf : f_X9_sheet_j40 a0 x2 x3 a4 mu = some (rE, mE)) : W p l e (rmN 2 0 0) s m args below meth c H locs 0 0 (MQ below (XQ D E (Am m0) (some (.int rE)) mE (mT mE = mT m0 ∧ True)) args s 0 0 (Am m0)) (F0 m 40 ls []) := by
  have hx := C.1
  have hb := C.2.1
  unfold f_X9_sheet_j40 at hf
  refine lv_iload_n hx hb dX9_sheet_40 rfl (lv_at hl 2 rfl) ?_
  refine lv_if_ge (tgt := 51) hx hb dX9_sheet_41 (by decide) (fun c => ?_) (fun c => ?_)
  · have hf := ifp hf c
    refine lv_iload_n hx hb dX9_sheet_51 rfl (lv_at hl 2 rfl) ?_
    refine lv_bipush hx hb dX9_sheet_52 kb_40 ?_
    refine lv_icmp_le (tgt := 63) hx hb dX9_sheet_54 (by decide) (fun c => ?_) (fun c => ?_)
    · have hf := ifp hf c
      refine lv_aload hx hb dX9_sheet_63 (lv_at hl 3 rfl) ?_
      refine lv_iload_n hx hb dX9_sheet_65 rfl (lv_at hl 1 rfl) ?_
      refine lv_iload_n hx hb dX9_sheet_66 rfl (lv_at hl 1 rfl) ?_
      refine lv_if_ne (tgt := 74) hx hb dX9_sheet_67 (by decide) (fun c => ?_) (fun c => ?_)
      · have hf := ifn hf c
        refine lv_iload_n hx hb dX9_sheet_74 rfl (lv_at hl 2 rfl) ?_
        obtain ⟨m108, cm108, hf⟩ := b1_el (o := f_X4_begin a4 x2 x3 mu) hf
        refine x_callVv (As := [.int x2, .int x3]) (rest := []) C hl.1 hw cb_X9_324 cv_X4_begin (k_X4_begin hw.2.2.2.2 ta4 cm108) ta4 rfl rfl (by decide) ⟨Nat.le_refl _, Nat.le_refl _⟩ rfl (Nat.le_of_ble_eq_true rfl) dX9_sheet_75 (fun H locs hw tm108 => ?_)
        refine lv_aload hx hb dX9_sheet_78 (lv_at hl 3 rfl) ?_
        refine x_getI C hw fa_X9_319 ta4 dX9_sheet_80 ?_
        exact x_retI C hr hk hw  hf (by decide) (by decide) dX9_sheet_83
      · have hf := ifp hf c
        refine lv_iconst hx hb dX9_sheet_70 ki_0 ?_
        refine lv_goto (tgt := 75) hx hb dX9_sheet_71 (by decide) ?_
        obtain ⟨m109, cm109, hf⟩ := b1_el (o := f_X4_begin a4 x2 0 mu) hf
        refine x_callVv (As := [.int x2, .int 0]) (rest := []) C hl.1 hw cb_X9_324 cv_X4_begin (k_X4_begin hw.2.2.2.2 ta4 cm109) ta4 rfl rfl (by decide) ⟨Nat.le_refl _, Nat.le_refl _⟩ rfl (Nat.le_of_ble_eq_true rfl) dX9_sheet_75 (fun H locs hw tm109 => ?_)
        refine lv_aload hx hb dX9_sheet_78 (lv_at hl 3 rfl) ?_
        refine x_getI C hw fa_X9_319 ta4 dX9_sheet_80 ?_
        exact x_retI C hr hk hw  hf (by decide) (by decide) dX9_sheet_83
    · have hf := ifn hf c
      refine lv_aload_n hx hb dX9_sheet_57 rfl (lv_at hl 0 rfl) ?_
      refine lv_iconst hx hb dX9_sheet_58 ki_0 ?_
      obtain ⟨r111, m110, cm110, hf⟩ := b2_el (o := f_X9_finding a0 0 mu) hf
      refine x_callVi (As := [.int 0]) (rest := []) C hl.1 hw cb_X9_63 cv_X9_finding (k_X9_finding hw.2.2.2.2 ta0 cm110) ta0 rfl rfl (by decide) ⟨Nat.le_refl _, Nat.le_refl _⟩ rfl (Nat.le_of_ble_eq_true rfl) dX9_sheet_59 (fun H locs hw tr111 => ?_)
      exact x_retI C hr hk hw  hf (by decide) (by decide) dX9_sheet_62
  · have hf := ifn hf c
    refine lv_aload_n hx hb dX9_sheet_44 rfl (lv_at hl 0 rfl) ?_
    refine lv_bipush hx hb dX9_sheet_45 kb_6 ?_
    obtain ⟨r113, m112, cm112, hf⟩ := b2_el (o := f_X9_finding a0 6 mu) hf
    refine x_callVi (As := [.int 6]) (rest := []) C hl.1 hw cb_X9_63 cv_X9_finding (k_X9_finding hw.2.2.2.2 ta0 cm112) ta0 rfl rfl (by decide) ⟨Nat.le_refl _, Nat.le_refl _⟩ rfl (Nat.le_of_ble_eq_true rfl) dX9_sheet_47 (fun H locs hw tr113 => ?_)
    exact x_retI C hr hk hw  hf (by decide) (by decide) dX9_sheet_50
set_option maxHeartbeats 4000000 in
set_option maxRecDepth 100000 in
theorem k_X9_sheet {l : Launch} {D : va_G} {E : Nat → ClassId} {tU : Nat} {τ : Nat → Option XTy} {a0 : Nat} {x1 : Int32} {x2 : Int32} {x3 : Int32} {m0 mE : XMem} {rE : Int32} (hm : mT m0 = τ) (ta0 : τ a0 = some (.inl 9)) (hf : f_X9_sheet a0 x1 x2 x3 m0 = some (rE, mE)) : Ct l yX9_sheet cX9_sheet 5 ((Option.some FieldType.int)) 2 0 0 D E tU [.ref a0, .int x1, .int x2, .int x3] m0 (some (.int rE)) mE (mT mE = mT m0 ∧ True) := by
  subst hm
  refine Ct.of (by decide) (Nat.le_of_ble_eq_true rfl) (fun p e s m below meth c ls C hr hk hnm hl hw => ?_)
  have hx := C.1
  have hb := C.2.1
  have hl : lv_has ls 5 [(0, .ref a0), (1, .int x1), (2, .int x2), (3, .int x3)] := hl
  unfold f_X9_sheet at hf
  refine lv_aload_n hx hb dX9_sheet_0 rfl (lv_at hl 0 rfl) ?_
  refine lv_iload_n hx hb dX9_sheet_1 rfl (lv_at hl 1 rfl) ?_
  obtain ⟨o102, m101, cm101, hf⟩ := b2_el (o := f_X9_sheetAt a0 x1 m0) hf
  have hmp := hw.2.2.2.2
  refine x_callVq (As := [.int x1]) (rest := []) C hl.1 hw cb_X9_312 cv_X9_sheetAt (k_X9_sheetAt hw.2.2.2.2 ta0 cm101) ta0 rfl rfl (by decide) ⟨Nat.le_refl _, Nat.le_refl _⟩ rfl (Nat.le_of_ble_eq_true rfl) dX9_sheet_2 (fun H locs hw to102 => ?_)
  have to102 : ∀ b, o102 = some b → (mT m0) b = some (.inl 4) := fun b h => by have q := to102 b h; rw [hmp] at q; exact q
  refine x_astoreQ (lv' := [(4, va_rf o102), (0, .ref a0), (1, .int x1), (2, .int x2), (3, .int x3)]) hx hb dX9_sheet_5 hl (by decide) rfl (fun ls hl => ?_)
  refine x_aloadQ hx hb dX9_sheet_7 (lv_at hl 0 rfl) ?_
  cases o102 with
  | none =>
    have hf := oc_n hf
    refine lv_ifnullN (tgt := 34) hx hb dX9_sheet_9 (by decide) ?_
    refine lv_aload_n hx hb dX9_sheet_34 rfl (lv_at hl 1 rfl) ?_
    refine lv_iconst hx hb dX9_sheet_35 ki_0 ?_
    obtain ⟨r105, m104, cm104, hf⟩ := b2_el (o := f_X9_finding a0 0 m101) hf
    refine x_callVi (As := [.int 0]) (rest := []) C hl.1 hw cb_X9_63 cv_X9_finding (k_X9_finding hw.2.2.2.2 ta0 cm104) ta0 rfl rfl (by decide) ⟨Nat.le_refl _, Nat.le_refl _⟩ rfl (Nat.le_of_ble_eq_true rfl) dX9_sheet_36 (fun H locs hw tr105 => ?_)
    exact x_retI C hr hk hw  hf (by decide) (by decide) dX9_sheet_39
  | some b103 =>
    have hf := oc_s hf
    have tb103 := to102 b103 rfl
    refine lv_ifnull hx hb dX9_sheet_9 ?_
    refine lv_iload_n hx hb dX9_sheet_12 rfl (lv_at hl 3 rfl) ?_
    refine lv_if_eq (tgt := 40) hx hb dX9_sheet_13 (by decide) (fun c => ?_) (fun c => ?_)
    · have hf := ifp hf c
      exact w_X9_sheet_j40 C hr hk hnm ta0 tb103 (lv_sub hl [1, 3, 4, 0] rfl) hw hf
    · have hf := ifn hf c
      refine lv_iload_n hx hb dX9_sheet_16 rfl (lv_at hl 3 rfl) ?_
      refine lv_bipush hx hb dX9_sheet_17 kb_8 ?_
      refine lv_icmp_eq (tgt := 40) hx hb dX9_sheet_19 (by decide) (fun c => ?_) (fun c => ?_)
      · have hf := ifp hf c
        exact w_X9_sheet_j40 C hr hk hnm ta0 tb103 (lv_sub hl [1, 3, 4, 0] rfl) hw hf
      · have hf := ifn hf c
        refine lv_iload_n hx hb dX9_sheet_22 rfl (lv_at hl 3 rfl) ?_
        refine lv_bipush hx hb dX9_sheet_23 kb_16 ?_
        refine lv_icmp_eq (tgt := 40) hx hb dX9_sheet_25 (by decide) (fun c => ?_) (fun c => ?_)
        · have hf := ifp hf c
          exact w_X9_sheet_j40 C hr hk hnm ta0 tb103 (lv_sub hl [1, 3, 4, 0] rfl) hw hf
        · have hf := ifn hf c
          refine lv_iload_n hx hb dX9_sheet_28 rfl (lv_at hl 3 rfl) ?_
          refine lv_bipush hx hb dX9_sheet_29 kb_64 ?_
          refine lv_icmp_eq (tgt := 40) hx hb dX9_sheet_31 (by decide) (fun c => ?_) (fun c => ?_)
          · have hf := ifp hf c
            exact w_X9_sheet_j40 C hr hk hnm ta0 tb103 (lv_sub hl [1, 3, 4, 0] rfl) hw hf
          · have hf := ifn hf c
            refine lv_aload_n hx hb dX9_sheet_34 rfl (lv_at hl 1 rfl) ?_
            refine lv_iconst hx hb dX9_sheet_35 ki_0 ?_
            obtain ⟨r107, m106, cm106, hf⟩ := b2_el (o := f_X9_finding a0 0 m101) hf
            refine x_callVi (As := [.int 0]) (rest := []) C hl.1 hw cb_X9_63 cv_X9_finding (k_X9_finding hw.2.2.2.2 ta0 cm106) ta0 rfl rfl (by decide) ⟨Nat.le_refl _, Nat.le_refl _⟩ rfl (Nat.le_of_ble_eq_true rfl) dX9_sheet_36 (fun H locs hw tr107 => ?_)
            exact x_retI C hr hk hw  hf (by decide) (by decide) dX9_sheet_39
set_option maxHeartbeats 4000000 in
set_option maxRecDepth 100000 in
theorem k_X9_show {l : Launch} {D : va_G} {E : Nat → ClassId} {tU : Nat} {τ : Nat → Option XTy} {a0 : Nat} {x1 : Int32} {m0 mE : XMem} {rE : Int32} (hm : mT m0 = τ) (ta0 : τ a0 = some (.inl 9)) (hf : f_X9_show a0 x1 m0 = some (rE, mE)) : Ct l yX9_show cX9_show 3 ((Option.some FieldType.int)) 2 0 0 D E tU [.ref a0, .int x1] m0 (some (.int rE)) mE (mT mE = mT m0 ∧ True) := by
  subst hm
  refine Ct.of (by decide) (Nat.le_of_ble_eq_true rfl) (fun p e s m below meth c ls C hr hk hnm hl hw => ?_)
  have hx := C.1
  have hb := C.2.1
  have hl : lv_has ls 3 [(0, .ref a0), (1, .int x1)] := hl
  unfold f_X9_show at hf
  refine lv_aload_n hx hb dX9_show_0 rfl (lv_at hl 0 rfl) ?_
  obtain ⟨b101, eb101, hf⟩ := fo_el hf
  refine x_getR C hw fa_X9_10 (Or.inl ⟨_, rfl⟩) ta0 eb101 dX9_show_1 (fun tb101 => ?_)
  have tb101 : (mT m0) b101 = some (.inl 8) := tb101
  refine lv_iload_n hx hb dX9_show_4 rfl (lv_at hl 1 rfl) ?_
  obtain ⟨o103, m102, cm102, hf⟩ := b2_el (o := f_X8_houseAt b101 x1 m0) hf
  have hmp := hw.2.2.2.2
  refine x_callVq (As := [.int x1]) (rest := []) C hl.1 hw cb_X9_236 cv_X8_houseAt (k_X8_houseAt hw.2.2.2.2 tb101 cm102) tb101 rfl rfl (by decide) ⟨Nat.le_refl _, Nat.le_refl _⟩ rfl (Nat.le_of_ble_eq_true rfl) dX9_show_5 (fun H locs hw to103 => ?_)
  have to103 : ∀ b, o103 = some b → (mT m0) b = some (.inl 1) := fun b h => by have q := to103 b h; rw [hmp] at q; exact q
  refine x_astore_nQ (lv' := [(2, va_rf o103), (0, .ref a0), (1, .int x1)]) hx hb dX9_show_8 rfl hl (by decide) rfl (fun ls hl => ?_)
  refine x_aload_nQ hx hb dX9_show_9 rfl (lv_at hl 0 rfl) ?_
  cases o103 with
  | none =>
    have hf := oc_n hf
    refine lv_ifnonnullN hx hb dX9_show_10 ?_
    refine lv_aload_n hx hb dX9_show_13 rfl (lv_at hl 1 rfl) ?_
    refine lv_iconst hx hb dX9_show_14 ki_0 ?_
    obtain ⟨r106, m105, cm105, hf⟩ := b2_el (o := f_X9_finding a0 0 m102) hf
    refine x_callVi (As := [.int 0]) (rest := []) C hl.1 hw cb_X9_63 cv_X9_finding (k_X9_finding hw.2.2.2.2 ta0 cm105) ta0 rfl rfl (by decide) ⟨Nat.le_refl _, Nat.le_refl _⟩ rfl (Nat.le_of_ble_eq_true rfl) dX9_show_15 (fun H locs hw tr106 => ?_)
    exact x_retI C hr hk hw  hf (by decide) (by decide) dX9_show_18
  | some b104 =>
    have hf := oc_s hf
    have tb104 := to103 b104 rfl
    refine lv_ifnonnull (tgt := 19) hx hb dX9_show_10 (by decide) ?_
    refine lv_aload_n hx hb dX9_show_19 rfl (lv_at hl 0 rfl) ?_
    refine lv_iconst hx hb dX9_show_20 ki_1 ?_
    refine x_putZ C hw fa_X9_283 tb104 (Or.inr rfl) dX9_show_21 (fun m107 H locs em107 hw => ?_)
    have hf := nm_el hf em107
    refine lv_aload_n hx hb dX9_show_24 rfl (lv_at hl 0 rfl) ?_
    refine x_getI C hw fa_X9_280 tb104 dX9_show_25 ?_
    exact x_retI C hr hk hw  hf (by decide) (by decide) dX9_show_28
set_option maxHeartbeats 4000000 in
set_option maxRecDepth 100000 in
theorem k_X9_since {l : Launch} {D : va_G} {E : Nat → ClassId} {tU : Nat} {τ : Nat → Option XTy} {a0 : Nat} {x1 : Int32} {x2 : Int32} {m0 mE : XMem} {rE : Int32} (hm : mT m0 = τ) (ta0 : τ a0 = some (.inl 9)) (hf : f_X9_since a0 x1 x2 m0 = some (rE, mE)) : Ct l yX9_since cX9_since 4 ((Option.some FieldType.int)) 2 0 0 D E tU [.ref a0, .int x1, .int x2] m0 (some (.int rE)) mE (mT mE = mT m0 ∧ True) := by
  subst hm
  refine Ct.of (by decide) (Nat.le_of_ble_eq_true rfl) (fun p e s m below meth c ls C hr hk hnm hl hw => ?_)
  have hx := C.1
  have hb := C.2.1
  have hl : lv_has ls 4 [(0, .ref a0), (1, .int x1), (2, .int x2)] := hl
  unfold f_X9_since at hf
  refine lv_aload_n hx hb dX9_since_0 rfl (lv_at hl 0 rfl) ?_
  obtain ⟨b101, eb101, hf⟩ := fo_el hf
  refine x_getR C hw fa_X9_10 (Or.inl ⟨_, rfl⟩) ta0 eb101 dX9_since_1 (fun tb101 => ?_)
  have tb101 : (mT m0) b101 = some (.inl 8) := tb101
  refine lv_iload_n hx hb dX9_since_4 rfl (lv_at hl 1 rfl) ?_
  obtain ⟨o103, m102, cm102, hf⟩ := b2_el (o := f_X8_houseAt b101 x1 m0) hf
  have hmp := hw.2.2.2.2
  refine x_callVq (As := [.int x1]) (rest := []) C hl.1 hw cb_X9_236 cv_X8_houseAt (k_X8_houseAt hw.2.2.2.2 tb101 cm102) tb101 rfl rfl (by decide) ⟨Nat.le_refl _, Nat.le_refl _⟩ rfl (Nat.le_of_ble_eq_true rfl) dX9_since_5 (fun H locs hw to103 => ?_)
  have to103 : ∀ b, o103 = some b → (mT m0) b = some (.inl 1) := fun b h => by have q := to103 b h; rw [hmp] at q; exact q
  refine x_astore_nQ (lv' := [(3, va_rf o103), (0, .ref a0), (1, .int x1), (2, .int x2)]) hx hb dX9_since_8 rfl hl (by decide) rfl (fun ls hl => ?_)
  refine x_aload_nQ hx hb dX9_since_9 rfl (lv_at hl 0 rfl) ?_
  cases o103 with
  | none =>
    have hf := oc_n hf
    refine lv_ifnullN (tgt := 22) hx hb dX9_since_10 (by decide) ?_
    refine lv_aload_n hx hb dX9_since_22 rfl (lv_at hl 1 rfl) ?_
    refine lv_iconst hx hb dX9_since_23 ki_0 ?_
    obtain ⟨r106, m105, cm105, hf⟩ := b2_el (o := f_X9_finding a0 0 m102) hf
    refine x_callVi (As := [.int 0]) (rest := []) C hl.1 hw cb_X9_63 cv_X9_finding (k_X9_finding hw.2.2.2.2 ta0 cm105) ta0 rfl rfl (by decide) ⟨Nat.le_refl _, Nat.le_refl _⟩ rfl (Nat.le_of_ble_eq_true rfl) dX9_since_24 (fun H locs hw tr106 => ?_)
    exact x_retI C hr hk hw  hf (by decide) (by decide) dX9_since_27
  | some b104 =>
    have hf := oc_s hf
    have tb104 := to103 b104 rfl
    refine lv_ifnull hx hb dX9_since_10 ?_
    refine lv_iload_n hx hb dX9_since_13 rfl (lv_at hl 3 rfl) ?_
    refine lv_iconst hx hb dX9_since_14 ki_0 ?_
    refine lv_iconst hx hb dX9_since_15 ki_1 ?_
    obtain ⟨r108, m107, cm107, hf⟩ := b2_el (o := f_X9_within x2 0 1 m102) hf
    refine x_callSi (As := [.int x2, .int 0, .int 1]) (rest := []) C hl.1 hw cb_X9_59 cs_X9_within (k_X9_within hw.2.2.2.2  cm107) rfl (by decide) ⟨Nat.le_refl _, Nat.le_refl _⟩ rfl (Nat.le_of_ble_eq_true rfl) dX9_since_16 (fun H locs hw tr108 => ?_)
    refine lv_if_ne (tgt := 28) hx hb dX9_since_19 (by decide) (fun c => ?_) (fun c => ?_)
    · have hf := ifn hf c
      refine lv_iload_n hx hb dX9_since_28 rfl (lv_at hl 3 rfl) ?_
      refine lv_if_ne (tgt := 52) hx hb dX9_since_29 (by decide) (fun c => ?_) (fun c => ?_)
      · have hf := ifn hf c
        refine lv_aload_n hx hb dX9_since_52 rfl (lv_at hl 0 rfl) ?_
        refine x_getI C hw fa_X9_260 tb104 dX9_since_53 ?_
        refine lv_iconst hx hb dX9_since_56 ki_2 ?_
        refine lv_icmp_ne (tgt := 67) hx hb dX9_since_57 (by decide) (fun c => ?_) (fun c => ?_)
        · have hf := ifn hf c
          refine lv_aload_n hx hb dX9_since_67 rfl (lv_at hl 1 rfl) ?_
          refine lv_iconst hx hb dX9_since_68 ki_3 ?_
          obtain ⟨r110, m109, cm109, hf⟩ := b2_el (o := f_X9_finding a0 3 m107) hf
          refine x_callVi (As := [.int 3]) (rest := []) C hl.1 hw cb_X9_63 cv_X9_finding (k_X9_finding hw.2.2.2.2 ta0 cm109) ta0 rfl rfl (by decide) ⟨Nat.le_refl _, Nat.le_refl _⟩ rfl (Nat.le_of_ble_eq_true rfl) dX9_since_69 (fun H locs hw tr110 => ?_)
          exact x_retI C hr hk hw  hf (by decide) (by decide) dX9_since_72
        · have hf := ifp hf c
          refine lv_aload_n hx hb dX9_since_60 rfl (lv_at hl 0 rfl) ?_
          refine x_getI C hw fa_X9_266 tb104 dX9_since_61 ?_
          refine lv_goto (tgt := 72) hx hb dX9_since_64 (by decide) ?_
          exact x_retI C hr hk hw  hf (by decide) (by decide) dX9_since_72
      · have hf := ifp hf c
        refine lv_aload_n hx hb dX9_since_32 rfl (lv_at hl 0 rfl) ?_
        refine x_getI C hw fa_X9_260 tb104 dX9_since_33 ?_
        refine lv_if_ne (tgt := 47) hx hb dX9_since_36 (by decide) (fun c => ?_) (fun c => ?_)
        · have hf := ifn hf c
          refine lv_aload_n hx hb dX9_since_47 rfl (lv_at hl 0 rfl) ?_
          refine x_getI C hw fa_X9_263 tb104 dX9_since_48 ?_
          exact x_retI C hr hk hw  hf (by decide) (by decide) dX9_since_51
        · have hf := ifp hf c
          refine lv_aload_n hx hb dX9_since_39 rfl (lv_at hl 1 rfl) ?_
          refine lv_iconst hx hb dX9_since_40 ki_3 ?_
          obtain ⟨r112, m111, cm111, hf⟩ := b2_el (o := f_X9_finding a0 3 m107) hf
          refine x_callVi (As := [.int 3]) (rest := []) C hl.1 hw cb_X9_63 cv_X9_finding (k_X9_finding hw.2.2.2.2 ta0 cm111) ta0 rfl rfl (by decide) ⟨Nat.le_refl _, Nat.le_refl _⟩ rfl (Nat.le_of_ble_eq_true rfl) dX9_since_41 (fun H locs hw tr112 => ?_)
          refine lv_goto (tgt := 51) hx hb dX9_since_44 (by decide) ?_
          exact x_retI C hr hk hw  hf (by decide) (by decide) dX9_since_51
    · have hf := ifp hf c
      refine lv_aload_n hx hb dX9_since_22 rfl (lv_at hl 1 rfl) ?_
      refine lv_iconst hx hb dX9_since_23 ki_0 ?_
      obtain ⟨r114, m113, cm113, hf⟩ := b2_el (o := f_X9_finding a0 0 m107) hf
      refine x_callVi (As := [.int 0]) (rest := []) C hl.1 hw cb_X9_63 cv_X9_finding (k_X9_finding hw.2.2.2.2 ta0 cm113) ta0 rfl rfl (by decide) ⟨Nat.le_refl _, Nat.le_refl _⟩ rfl (Nat.le_of_ble_eq_true rfl) dX9_since_24 (fun H locs hw tr114 => ?_)
      exact x_retI C hr hk hw  hf (by decide) (by decide) dX9_since_27
set_option maxHeartbeats 4000000 in
set_option maxRecDepth 100000 in
theorem w_X9_status_h20 {p : Program} {l : Launch} {e : Env} {s : State} {m : MethodId} {args : Array Value} {below : List Frame} {meth : Method} {c : Code} {D : va_G} {E : Nat → ClassId} {tU : Nat} {m0 mE : XMem} {rE : Int32} (C : Cx p s m args c cX9_status 4 RX9 D E (Am m0) tU) (hr : meth.sig.returnType = ((Option.some FieldType.int))) (hk : meth.locks = false) (hnm : meth.name = yX9_status.name) {a0 : Nat} {x1 : Int32} (ta0 : mT m0 a0 = some (.inl 9)) {k54 : Int32 →  XMem → Option (Int32 × XMem)} (hk54 : ∀ (y2 : Int32) (mu : XMem) (H : Heap) (locs : List Loc) (ls : Array Slot), lv_has ls 4 [(2, .int y2)] → Wd D E (Am m0) s (mT m0) mu H locs →   k54 y2 mu = some (rE, mE) → W p l e (rmN 2 0 0) s m args below meth c H locs 0 0 (MQ below (XQ D E (Am m0) (some (.int rE)) mE (mT mE = mT m0 ∧ True)) args s 0 0 (Am m0)) (F0 m 54 ls [])) : ∀ (n : Nat) (x2 : Int32) (x3 : Int32) (mu : XMem) (H : Heap) (locs : List Loc) (ls : Array Slot), lv_has ls 4 [(0, .ref a0), (1, .int x1), (2, .int x2), (3, .int x3)] → Wd D E (Am m0) s (mT m0) mu H locs → f_X9_status_h20 a0 x1 k54 n x2 x3 mu = some (rE, mE) → W p l e (rmN 2 0 0) s m args below meth c H locs 0 0 (MQ below (XQ D E (Am m0) (some (.int rE)) mE (mT mE = mT m0 ∧ True)) args s 0 0 (Am m0)) (F0 m 20 ls []) := by
  have hx := C.1
  have hb := C.2.1
  intro n
  induction n with
  | zero =>
    intros
    rename_i hf
    cases hf
  | succ n ih =>
    intro x2 x3 mu H locs ls hl hw hf
    rw [f_X9_status_h20] at hf
    refine lv_iload_n hx hb dX9_status_20 rfl (lv_at hl 3 rfl) ?_
    refine lv_aload_n hx hb dX9_status_21 rfl (lv_at hl 0 rfl) ?_
    obtain ⟨b107, eb107, hf⟩ := fo_el hf
    refine x_getR C hw fa_X9_43 (Or.inr ⟨_, rfl⟩) ta0 eb107 dX9_status_22 (fun tb107 => ?_)
    have tb107 : ∃ n, (mT m0) b107 = some (.inr (0, n)) := tb107
    refine x_alen (ek := 0) C hw rfl tb107 dX9_status_25 ?_
    refine lv_icmp_ge (tgt := 54) hx hb dX9_status_26 (by decide) (fun c => ?_) (fun c => ?_)
    · have hf := ifp hf c
      exact hk54 _ _ _ _ _ (lv_sub hl [2] rfl) hw hf
    · have hf := ifn hf c
      refine lv_iload_n hx hb dX9_status_29 rfl (lv_at hl 1 rfl) ?_
      refine lv_iconst hx hb dX9_status_30 ki_m1 ?_
      refine lv_icmp_eq (tgt := 39) hx hb dX9_status_31 (by decide) (fun c => ?_) (fun c => ?_)
      · have hf := ifp hf c
        refine lv_iload_n hx hb dX9_status_39 rfl (lv_at hl 2 rfl) ?_
        refine lv_aload_n hx hb dX9_status_40 rfl (lv_at hl 0 rfl) ?_
        obtain ⟨b108, eb108, hf⟩ := fo_el hf
        refine x_getR C hw fa_X9_43 (Or.inr ⟨_, rfl⟩) ta0 eb108 dX9_status_41 (fun tb108 => ?_)
        have tb108 : ∃ n, (mT m0) b108 = some (.inr (0, n)) := tb108
        refine lv_iload_n hx hb dX9_status_44 rfl (lv_at hl 3 rfl) ?_
        obtain ⟨g109, hf⟩ := gd_el hf
        refine x_iald C hw tb108 g109 dX9_status_45 ?_
        refine lv_iadd hx hb dX9_status_46 ?_
        refine lv_topi (fun x110 ex110 => ?_)
        have hf := nm_el hf ex110
        refine lv_istore_n (lv' := [(2, .int x110), (0, .ref a0), (1, .int x1), (3, .int x3)]) hx hb dX9_status_47 rfl hl (by decide) rfl (fun ls hl => ?_)
        obtain ⟨x111, ex111⟩ : ∃ z : Int32, z = x3 + 1 := ⟨_, rfl⟩
        have hf := nm_el hf ex111
        refine lv_iinc (v := x111) (lv' := [(3, .int x111), (2, .int x110), (0, .ref a0), (1, .int x1)]) hx hb dX9_status_48 hl (k := 3) rfl (by rw [ex111, ki_1]) (by decide) rfl (fun ls hl => ?_)
        refine lv_goto (tgt := 20) hx hb dX9_status_51 (by decide) ?_
        exact ih _ _ _ _ _ _ (lv_sub hl [2, 3, 1, 0] rfl) hw hf
      · have hf := ifn hf c
        refine lv_iload_n hx hb dX9_status_34 rfl (lv_at hl 1 rfl) ?_
        refine lv_iload_n hx hb dX9_status_35 rfl (lv_at hl 3 rfl) ?_
        refine lv_icmp_ne (tgt := 48) hx hb dX9_status_36 (by decide) (fun c => ?_) (fun c => ?_)
        · have hf := ifn hf c
          obtain ⟨x112, ex112⟩ : ∃ z : Int32, z = x3 + 1 := ⟨_, rfl⟩
          have hf := nm_el hf ex112
          refine lv_iinc (v := x112) (lv' := [(3, .int x112), (0, .ref a0), (1, .int x1), (2, .int x2)]) hx hb dX9_status_48 hl (k := 3) rfl (by rw [ex112, ki_1]) (by decide) rfl (fun ls hl => ?_)
          refine lv_goto (tgt := 20) hx hb dX9_status_51 (by decide) ?_
          exact ih _ _ _ _ _ _ (lv_sub hl [1, 2, 3, 0] rfl) hw hf
        · have hf := ifp hf c
          refine lv_iload_n hx hb dX9_status_39 rfl (lv_at hl 2 rfl) ?_
          refine lv_aload_n hx hb dX9_status_40 rfl (lv_at hl 0 rfl) ?_
          obtain ⟨b113, eb113, hf⟩ := fo_el hf
          refine x_getR C hw fa_X9_43 (Or.inr ⟨_, rfl⟩) ta0 eb113 dX9_status_41 (fun tb113 => ?_)
          have tb113 : ∃ n, (mT m0) b113 = some (.inr (0, n)) := tb113
          refine lv_iload_n hx hb dX9_status_44 rfl (lv_at hl 3 rfl) ?_
          obtain ⟨g114, hf⟩ := gd_el hf
          refine x_iald C hw tb113 g114 dX9_status_45 ?_
          refine lv_iadd hx hb dX9_status_46 ?_
          refine lv_topi (fun x115 ex115 => ?_)
          have hf := nm_el hf ex115
          refine lv_istore_n (lv' := [(2, .int x115), (0, .ref a0), (1, .int x1), (3, .int x3)]) hx hb dX9_status_47 rfl hl (by decide) rfl (fun ls hl => ?_)
          obtain ⟨x116, ex116⟩ : ∃ z : Int32, z = x3 + 1 := ⟨_, rfl⟩
          have hf := nm_el hf ex116
          refine lv_iinc (v := x116) (lv' := [(3, .int x116), (2, .int x115), (0, .ref a0), (1, .int x1)]) hx hb dX9_status_48 hl (k := 3) rfl (by rw [ex116, ki_1]) (by decide) rfl (fun ls hl => ?_)
          refine lv_goto (tgt := 20) hx hb dX9_status_51 (by decide) ?_
          exact ih _ _ _ _ _ _ (lv_sub hl [2, 3, 1, 0] rfl) hw hf
set_option maxHeartbeats 4000000 in
set_option maxRecDepth 100000 in
theorem k_X9_status {l : Launch} {D : va_G} {E : Nat → ClassId} {tU : Nat} {τ : Nat → Option XTy} {a0 : Nat} {x1 : Int32} {m0 mE : XMem} {rE : Int32} (hm : mT m0 = τ) (ta0 : τ a0 = some (.inl 9)) (hf : f_X9_status a0 x1 m0 = some (rE, mE)) : Ct l yX9_status cX9_status 4 ((Option.some FieldType.int)) 2 0 0 D E tU [.ref a0, .int x1] m0 (some (.int rE)) mE (mT mE = mT m0 ∧ True) := by
  subst hm
  refine Ct.of (by decide) (Nat.le_of_ble_eq_true rfl) (fun p e s m below meth c ls C hr hk hnm hl hw => ?_)
  have hx := C.1
  have hb := C.2.1
  have hl : lv_has ls 4 [(0, .ref a0), (1, .int x1)] := hl
  unfold f_X9_status at hf
  refine lv_iload_n hx hb dX9_status_0 rfl (lv_at hl 1 rfl) ?_
  refine lv_iconst hx hb dX9_status_1 ki_m1 ?_
  refine lv_bipush hx hb dX9_status_2 kb_6 ?_
  obtain ⟨r102, m101, cm101, hf⟩ := b2_el (o := f_X9_within x1 (-1) 6 m0) hf
  refine x_callSi (As := [.int x1, .int (-1), .int 6]) (rest := []) C hl.1 hw cb_X9_59 cs_X9_within (k_X9_within hw.2.2.2.2  cm101) rfl (by decide) ⟨Nat.le_refl _, Nat.le_refl _⟩ rfl (Nat.le_of_ble_eq_true rfl) dX9_status_4 (fun H locs hw tr102 => ?_)
  refine lv_if_ne (tgt := 16) hx hb dX9_status_7 (by decide) (fun c => ?_) (fun c => ?_)
  · have hf := ifn hf c
    refine lv_iconst hx hb dX9_status_16 ki_0 ?_
    refine lv_istore_n (lv' := [(2, .int 0), (0, .ref a0), (1, .int x1)]) hx hb dX9_status_17 rfl hl (by decide) rfl (fun ls hl => ?_)
    refine lv_iconst hx hb dX9_status_18 ki_0 ?_
    refine lv_istore_n (lv' := [(3, .int 0), (2, .int 0), (0, .ref a0), (1, .int x1)]) hx hb dX9_status_19 rfl hl (by decide) rfl (fun ls hl => ?_)
    refine w_X9_status_h20 C hr hk hnm ta0 ?_ 2000 _ _ _ _ _ _ (lv_sub hl [2, 3, 1, 0] rfl) hw hf
    intro x104 m103 H locs ls hl hw hf
    refine lv_iload_n hx hb dX9_status_54 rfl (lv_at hl 0 rfl) ?_
    exact x_retI C hr hk hw  hf (by decide) (by decide) dX9_status_55
  · have hf := ifp hf c
    refine lv_aload_n hx hb dX9_status_10 rfl (lv_at hl 0 rfl) ?_
    refine lv_iconst hx hb dX9_status_11 ki_0 ?_
    obtain ⟨r106, m105, cm105, hf⟩ := b2_el (o := f_X9_finding a0 0 m101) hf
    refine x_callVi (As := [.int 0]) (rest := []) C hl.1 hw cb_X9_63 cv_X9_finding (k_X9_finding hw.2.2.2.2 ta0 cm105) ta0 rfl rfl (by decide) ⟨Nat.le_refl _, Nat.le_refl _⟩ rfl (Nat.le_of_ble_eq_true rfl) dX9_status_12 (fun H locs hw tr106 => ?_)
    exact x_retI C hr hk hw  hf (by decide) (by decide) dX9_status_15
set_option maxHeartbeats 4000000 in
set_option maxRecDepth 100000 in
theorem k_X9_tear {l : Launch} {D : va_G} {E : Nat → ClassId} {tU : Nat} {τ : Nat → Option XTy} {a0 : Nat} {m0 mE : XMem} {rE : Int32} (hm : mT m0 = τ) (ta0 : τ a0 = some (.inl 9)) (hf : f_X9_tear a0 m0 = some (rE, mE)) : Ct l yX9_tear cX9_tear 2 ((Option.some FieldType.int)) 1 0 0 D E tU [.ref a0] m0 (some (.int rE)) mE (mT mE = mT m0 ∧ True) := by
  subst hm
  refine Ct.of (by decide) (Nat.le_of_ble_eq_true rfl) (fun p e s m below meth c ls C hr hk hnm hl hw => ?_)
  have hx := C.1
  have hb := C.2.1
  have hl : lv_has ls 2 [(0, .ref a0)] := hl
  unfold f_X9_tear at hf
  refine lv_aload_n hx hb dX9_tear_0 rfl (lv_at hl 0 rfl) ?_
  refine x_getZ C hw fa_X9_19 ta0 dX9_tear_1 ?_
  refine lv_if_eq (tgt := 11) hx hb dX9_tear_4 (by decide) (fun c => ?_) (fun c => ?_)
  · have hf := ifp hf c
    refine lv_iconst hx hb dX9_tear_11 ki_0 ?_
    refine lv_istore_n (lv' := [(1, .int 0), (0, .ref a0)]) hx hb dX9_tear_12 rfl hl (by decide) rfl (fun ls hl => ?_)
    refine lv_aload_n hx hb dX9_tear_13 rfl (lv_at hl 1 rfl) ?_
    refine lv_iconst hx hb dX9_tear_14 ki_0 ?_
    refine x_putZ C hw fa_X9_19 ta0 (Or.inl rfl) dX9_tear_15 (fun m101 H locs em101 hw => ?_)
    have hf := nm_el hf em101
    refine lv_iload_n hx hb dX9_tear_18 rfl (lv_at hl 0 rfl) ?_
    exact x_retI C hr hk hw  hf (by decide) (by decide) dX9_tear_19
  · have hf := ifn hf c
    refine lv_iconst hx hb dX9_tear_7 ki_1 ?_
    refine lv_goto (tgt := 12) hx hb dX9_tear_8 (by decide) ?_
    refine lv_istore_n (lv' := [(1, .int 1), (0, .ref a0)]) hx hb dX9_tear_12 rfl hl (by decide) rfl (fun ls hl => ?_)
    refine lv_aload_n hx hb dX9_tear_13 rfl (lv_at hl 1 rfl) ?_
    refine lv_iconst hx hb dX9_tear_14 ki_0 ?_
    refine x_putZ C hw fa_X9_19 ta0 (Or.inl rfl) dX9_tear_15 (fun m102 H locs em102 hw => ?_)
    have hf := nm_el hf em102
    refine lv_iload_n hx hb dX9_tear_18 rfl (lv_at hl 0 rfl) ?_
    exact x_retI C hr hk hw  hf (by decide) (by decide) dX9_tear_19
set_option maxHeartbeats 4000000 in
set_option maxRecDepth 100000 in
theorem k_X9_tells {l : Launch} {D : va_G} {E : Nat → ClassId} {tU : Nat} {τ : Nat → Option XTy} {a0 : Nat} {x1 : Int32} {x2 : Int32} {m0 mE : XMem} {rE : Int32} (hm : mT m0 = τ) (ta0 : τ a0 = some (.inl 9)) (hf : f_X9_tells a0 x1 x2 m0 = some (rE, mE)) : Ct l yX9_tells cX9_tells 5 ((Option.some FieldType.int)) 5 0 0 D E tU [.ref a0, .int x1, .int x2] m0 (some (.int rE)) mE (mT mE = mT m0 ∧ True) := by
  subst hm
  refine Ct.of (by decide) (Nat.le_of_ble_eq_true rfl) (fun p e s m below meth c ls C hr hk hnm hl hw => ?_)
  have hx := C.1
  have hb := C.2.1
  have hl : lv_has ls 5 [(0, .ref a0), (1, .int x1), (2, .int x2)] := hl
  unfold f_X9_tells at hf
  refine lv_aload_n hx hb dX9_tells_0 rfl (lv_at hl 0 rfl) ?_
  obtain ⟨b101, eb101, hf⟩ := fo_el hf
  refine x_getR C hw fa_X9_10 (Or.inl ⟨_, rfl⟩) ta0 eb101 dX9_tells_1 (fun tb101 => ?_)
  have tb101 : (mT m0) b101 = some (.inl 8) := tb101
  refine lv_iload_n hx hb dX9_tells_4 rfl (lv_at hl 1 rfl) ?_
  obtain ⟨o103, m102, cm102, hf⟩ := b2_el (o := f_X8_lawAt b101 x1 m0) hf
  have hmp := hw.2.2.2.2
  refine x_callVq (As := [.int x1]) (rest := []) C hl.1 hw cb_X9_197 cv_X8_lawAt (k_X8_lawAt hw.2.2.2.2 tb101 cm102) tb101 rfl rfl (by decide) ⟨Nat.le_refl _, Nat.le_refl _⟩ rfl (Nat.le_of_ble_eq_true rfl) dX9_tells_5 (fun H locs hw to103 => ?_)
  have to103 : ∀ b, o103 = some b → (mT m0) b = some (.inl 2) := fun b h => by have q := to103 b h; rw [hmp] at q; exact q
  refine x_astore_nQ (lv' := [(3, va_rf o103), (0, .ref a0), (1, .int x1), (2, .int x2)]) hx hb dX9_tells_8 rfl hl (by decide) rfl (fun ls hl => ?_)
  refine lv_aload_n hx hb dX9_tells_9 rfl (lv_at hl 1 rfl) ?_
  obtain ⟨b104, eb104, hf⟩ := fo_el hf
  refine x_getR C hw fa_X9_10 (Or.inl ⟨_, rfl⟩) ta0 eb104 dX9_tells_10 (fun tb104 => ?_)
  have tb104 : (mT m0) b104 = some (.inl 8) := tb104
  refine lv_iload_n hx hb dX9_tells_13 rfl (lv_at hl 3 rfl) ?_
  obtain ⟨o106, m105, cm105, hf⟩ := b2_el (o := f_X8_cellAt b104 x2 m102) hf
  have hmp := hw.2.2.2.2
  refine x_callVq (As := [.int x2]) (rest := []) C hl.1 hw cb_X9_96 cv_X8_cellAt (k_X8_cellAt hw.2.2.2.2 tb104 cm105) tb104 rfl rfl (by decide) ⟨Nat.le_refl _, Nat.le_refl _⟩ rfl (Nat.le_of_ble_eq_true rfl) dX9_tells_14 (fun H locs hw to106 => ?_)
  have to106 : ∀ b, o106 = some b → (mT m0) b = some (.inl 0) := fun b h => by have q := to106 b h; rw [hmp] at q; exact q
  refine x_astoreQ (lv' := [(4, va_rf o106), (3, va_rf o103), (0, .ref a0), (1, .int x1), (2, .int x2)]) hx hb dX9_tells_17 hl (by decide) (by simp [List.filter, va_rfc]) (fun ls hl => ?_)
  refine x_aload_nQ hx hb dX9_tells_19 rfl (lv_at hl 1 rfl) ?_
  cases o103 with
  | none =>
    have hf := oc_n hf
    refine lv_ifnullN (tgt := 28) hx hb dX9_tells_20 (by decide) ?_
    refine lv_aload_n hx hb dX9_tells_28 rfl (lv_at hl 2 rfl) ?_
    refine lv_iconst hx hb dX9_tells_29 ki_0 ?_
    obtain ⟨r109, m108, cm108, hf⟩ := b2_el (o := f_X9_finding a0 0 m105) hf
    refine x_callVi (As := [.int 0]) (rest := []) C hl.1 hw cb_X9_63 cv_X9_finding (k_X9_finding hw.2.2.2.2 ta0 cm108) ta0 rfl rfl (by decide) ⟨Nat.le_refl _, Nat.le_refl _⟩ rfl (Nat.le_of_ble_eq_true rfl) dX9_tells_30 (fun H locs hw tr109 => ?_)
    exact x_retI C hr hk hw  hf (by decide) (by decide) dX9_tells_33
  | some b107 =>
    have hf := oc_s hf
    have tb107 := to103 b107 rfl
    refine lv_ifnull hx hb dX9_tells_20 ?_
    refine x_aloadQ hx hb dX9_tells_23 (lv_at hl 0 rfl) ?_
    cases o106 with
    | none =>
      have hf := oc_n hf
      refine lv_ifnonnullN hx hb dX9_tells_25 ?_
      refine lv_aload_n hx hb dX9_tells_28 rfl (lv_at hl 2 rfl) ?_
      refine lv_iconst hx hb dX9_tells_29 ki_0 ?_
      obtain ⟨r112, m111, cm111, hf⟩ := b2_el (o := f_X9_finding a0 0 m105) hf
      refine x_callVi (As := [.int 0]) (rest := []) C hl.1 hw cb_X9_63 cv_X9_finding (k_X9_finding hw.2.2.2.2 ta0 cm111) ta0 rfl rfl (by decide) ⟨Nat.le_refl _, Nat.le_refl _⟩ rfl (Nat.le_of_ble_eq_true rfl) dX9_tells_30 (fun H locs hw tr112 => ?_)
      exact x_retI C hr hk hw  hf (by decide) (by decide) dX9_tells_33
    | some b110 =>
      have hf := oc_s hf
      have tb110 := to106 b110 rfl
      refine lv_ifnonnull (tgt := 34) hx hb dX9_tells_25 (by decide) ?_
      refine lv_aload_n hx hb dX9_tells_34 rfl (lv_at hl 2 rfl) ?_
      obtain ⟨b113, eb113, hf⟩ := fo_el hf
      refine x_getR C hw fa_X9_10 (Or.inl ⟨_, rfl⟩) ta0 eb113 dX9_tells_35 (fun tb113 => ?_)
      have tb113 : (mT m0) b113 = some (.inl 8) := tb113
      refine lv_aload_n hx hb dX9_tells_38 rfl (lv_at hl 1 rfl) ?_
      refine lv_aload hx hb dX9_tells_39 (lv_at hl 0 rfl) ?_
      refine lv_iload_n hx hb dX9_tells_41 rfl (lv_at hl 4 rfl) ?_
      refine lv_aload_n hx hb dX9_tells_42 rfl (lv_at hl 2 rfl) ?_
      obtain ⟨b114, eb114, hf⟩ := fo_el hf
      refine x_getR C hw fa_X9_10 (Or.inl ⟨_, rfl⟩) ta0 eb114 dX9_tells_43 (fun tb114 => ?_)
      have tb114 : (mT m0) b114 = some (.inl 8) := tb114
      refine x_getI C hw fa_X9_106 tb114 dX9_tells_46 ?_
      obtain ⟨r116, m115, cm115, hf⟩ := b2_el (o := f_X8_toldBy b113 b107 b110 x2 (mI m105 b114 0) m105) hf
      refine x_callVi (As := [.ref b107, .ref b110, .int x2, .int (mI m105 b114 0)]) (rest := []) C hl.1 hw cb_X9_201 cv_X8_toldBy (k_X8_toldBy hw.2.2.2.2 tb113 tb107 tb110 cm115) tb113 rfl rfl (by decide) ⟨Nat.le_refl _, Nat.le_refl _⟩ rfl (Nat.le_of_ble_eq_true rfl) dX9_tells_49 (fun H locs hw tr116 => ?_)
      exact x_retI C hr hk hw  hf (by decide) (by decide) dX9_tells_52
set_option maxHeartbeats 4000000 in
set_option maxRecDepth 100000 in
theorem k_X9_told {l : Launch} {D : va_G} {E : Nat → ClassId} {tU : Nat} {τ : Nat → Option XTy} {a0 : Nat} {x1 : Int32} {m0 mE : XMem} {rE : Int32} (hm : mT m0 = τ) (ta0 : τ a0 = some (.inl 9)) (hf : f_X9_told a0 x1 m0 = some (rE, mE)) : Ct l yX9_told cX9_told 3 ((Option.some FieldType.int)) 5 4 202 D E tU [.ref a0, .int x1] m0 (some (.int rE)) mE (XA m0 mE ∧ True) := by
  subst hm
  refine Ct.of (by decide) (Nat.le_of_ble_eq_true rfl) (fun p e s m below meth c ls C hr hk hnm hl hw => ?_)
  have hx := C.1
  have hb := C.2.1
  have hl : lv_has ls 3 [(0, .ref a0), (1, .int x1)] := hl
  unfold f_X9_told at hf
  have hmo : ∀ q u, mT m0 q = some u → mT m0 q = some u := fun _ _ h => h
  refine lv_iload_n hx hb dX9_told_0 rfl (lv_at hl 1 rfl) ?_
  refine lv_iconst hx hb dX9_told_1 ki_0 ?_
  refine lv_iconst hx hb dX9_told_2 ki_1 ?_
  obtain ⟨r102, m101, cm101, hf⟩ := b2_el (o := f_X9_within x1 0 1 m0) hf
  refine x_callSi (As := [.int x1, .int 0, .int 1]) (rest := []) C hl.1 hw cb_X9_59 cs_X9_within (k_X9_within hw.2.2.2.2  cm101) rfl (by decide) ⟨(by decide), (by decide)⟩ rfl (Nat.le_of_ble_eq_true rfl) dX9_told_3 (fun H locs hw tr102 => ?_)
  refine lv_if_ne (tgt := 15) hx hb dX9_told_6 (by decide) (fun c => ?_) (fun c => ?_)
  · have hf := ifn hf c
    refine lv_aload_n hx hb dX9_told_15 rfl (lv_at hl 0 rfl) ?_
    obtain ⟨b103, eb103, hf⟩ := fo_el hf
    refine x_getR C hw fa_X9_33 (Or.inl ⟨_, rfl⟩) ta0 eb103 dX9_told_16 (fun tb103 => ?_)
    have tb103 : (mT m0) b103 = some (.inl 3) := tb103
    refine lv_aload_n hx hb dX9_told_19 rfl (lv_at hl 0 rfl) ?_
    obtain ⟨b104, eb104, hf⟩ := fo_el hf
    refine x_getR C hw fa_X9_26 (Or.inl ⟨_, rfl⟩) ta0 eb104 dX9_told_20 (fun tb104 => ?_)
    have tb104 : (mT m0) b104 = some (.inl 5) := tb104
    obtain ⟨r106, m105, cm105, hf⟩ := b2_el (o := f_X3_faultOf b103 b104 m101) hf
    refine x_callVi (As := [.ref b104]) (rest := []) C hl.1 hw cb_X9_166 cv_X3_faultOf (k_X3_faultOf hw.2.2.2.2 tb103 tb104 cm105) tb103 rfl rfl (by decide) ⟨(by decide), (by decide)⟩ rfl (Nat.le_of_ble_eq_true rfl) dX9_told_23 (fun H locs hw tr106 => ?_)
    refine lv_istore_n (lv' := [(2, .int r106), (0, .ref a0), (1, .int x1)]) hx hb dX9_told_26 rfl hl (by decide) rfl (fun ls hl => ?_)
    refine lv_iload_n hx hb dX9_told_27 rfl (lv_at hl 0 rfl) ?_
    refine lv_iconst hx hb dX9_told_28 ki_m1 ?_
    refine lv_icmp_eq (tgt := 36) hx hb dX9_told_29 (by decide) (fun c => ?_) (fun c => ?_)
    · have hf := ifp hf c
      refine lv_iload_n hx hb dX9_told_36 rfl (lv_at hl 2 rfl) ?_
      refine lv_if_ne (tgt := 57) hx hb dX9_told_37 (by decide) (fun c => ?_) (fun c => ?_)
      · have hf := ifn hf c
        refine lv_aload_n hx hb dX9_told_57 rfl (lv_at hl 1 rfl) ?_
        obtain ⟨b107, eb107, hf⟩ := fo_el hf
        refine x_getR C hw fa_X9_10 (Or.inl ⟨_, rfl⟩) ta0 eb107 dX9_told_58 (fun tb107 => ?_)
        have tb107 : (mT m0) b107 = some (.inl 8) := tb107
        refine lv_aload_n hx hb dX9_told_61 rfl (lv_at hl 1 rfl) ?_
        obtain ⟨b108, eb108, hf⟩ := fo_el hf
        refine x_getR C hw fa_X9_33 (Or.inl ⟨_, rfl⟩) ta0 eb108 dX9_told_62 (fun tb108 => ?_)
        have tb108 : (mT m0) b108 = some (.inl 3) := tb108
        obtain ⟨o110, m109, cm109, hf⟩ := b2_el (o := f_X3_text b108 m105) hf
        refine x_callVqN (As := []) (rest := [.ref b107]) C hl.1 hw cb_X9_172 cv_X3_text (k_X3_text hw.2.2.2.2 tb108 cm109) tb108 rfl rfl (by decide) ⟨(by decide), (by decide)⟩ rfl (Nat.le_of_ble_eq_true rfl) dX9_told_65 (fun H locs Tm109 eTm109 hw mom109 to110 => ?_)
        have ta0 := mom109 _ _ ta0
        have tb107 := mom109 _ _ tb107
        have hmo := fun q u h => mom109 q u (hmo q u h)
        have to110 : ∀ b, o110 = some b → Tm109 b = some (.inl 6) := fun b h => by rw [eTm109]; exact to110 b h
        refine x_putQ (o := o110) C hw fa_X9_187 (Or.inl ⟨_, rfl⟩) tb107 to110 dX9_told_68 (fun m111 H locs em111 hw => ?_)
        have hf := nm_el hf em111
        refine lv_aload_n hx hb dX9_told_71 rfl (lv_at hl 1 rfl) ?_
        obtain ⟨b112, eb112, hf⟩ := fo_el hf
        refine x_getR C hw fa_X9_26 (Or.inl ⟨_, rfl⟩) ta0 eb112 dX9_told_72 (fun tb112 => ?_)
        have tb112 : Tm109 b112 = some (.inl 5) := tb112
        refine lv_iconst hx hb dX9_told_75 ki_0 ?_
        refine x_putI C hw fa_X9_156 tb112 dX9_told_76 (fun m113 H locs em113 hw => ?_)
        have hf := nm_el hf em113
        refine lv_iconst hx hb dX9_told_79 ki_0 ?_
        exact x_retIN C hr hk hw hmo hf (by decide) (by decide) dX9_told_80
      · have hf := ifp hf c
        refine lv_aload_n hx hb dX9_told_40 rfl (lv_at hl 1 rfl) ?_
        obtain ⟨b114, eb114, hf⟩ := fo_el hf
        refine x_getR C hw fa_X9_10 (Or.inl ⟨_, rfl⟩) ta0 eb114 dX9_told_41 (fun tb114 => ?_)
        have tb114 : (mT m0) b114 = some (.inl 8) := tb114
        refine lv_aload_n hx hb dX9_told_44 rfl (lv_at hl 1 rfl) ?_
        obtain ⟨b115, eb115, hf⟩ := fo_el hf
        refine x_getR C hw fa_X9_33 (Or.inl ⟨_, rfl⟩) ta0 eb115 dX9_told_45 (fun tb115 => ?_)
        have tb115 : (mT m0) b115 = some (.inl 3) := tb115
        obtain ⟨o117, m116, cm116, hf⟩ := b2_el (o := f_X3_text b115 m105) hf
        refine x_callVqN (As := []) (rest := [.ref b114]) C hl.1 hw cb_X9_172 cv_X3_text (k_X3_text hw.2.2.2.2 tb115 cm116) tb115 rfl rfl (by decide) ⟨(by decide), (by decide)⟩ rfl (Nat.le_of_ble_eq_true rfl) dX9_told_48 (fun H locs Tm116 eTm116 hw mom116 to117 => ?_)
        have ta0 := mom116 _ _ ta0
        have tb114 := mom116 _ _ tb114
        have hmo := fun q u h => mom116 q u (hmo q u h)
        have to117 : ∀ b, o117 = some b → Tm116 b = some (.inl 6) := fun b h => by rw [eTm116]; exact to117 b h
        refine x_putQ (o := o117) C hw fa_X9_183 (Or.inl ⟨_, rfl⟩) tb114 to117 dX9_told_51 (fun m118 H locs em118 hw => ?_)
        have hf := nm_el hf em118
        refine lv_goto (tgt := 71) hx hb dX9_told_54 (by decide) ?_
        refine lv_aload_n hx hb dX9_told_71 rfl (lv_at hl 1 rfl) ?_
        obtain ⟨b119, eb119, hf⟩ := fo_el hf
        refine x_getR C hw fa_X9_26 (Or.inl ⟨_, rfl⟩) ta0 eb119 dX9_told_72 (fun tb119 => ?_)
        have tb119 : Tm116 b119 = some (.inl 5) := tb119
        refine lv_iconst hx hb dX9_told_75 ki_0 ?_
        refine x_putI C hw fa_X9_156 tb119 dX9_told_76 (fun m120 H locs em120 hw => ?_)
        have hf := nm_el hf em120
        refine lv_iconst hx hb dX9_told_79 ki_0 ?_
        exact x_retIN C hr hk hw hmo hf (by decide) (by decide) dX9_told_80
    · have hf := ifn hf c
      refine lv_iconst hx hb dX9_told_32 ki_m1 ?_
      refine lv_iload_n hx hb dX9_told_33 rfl (lv_at hl 0 rfl) ?_
      refine lv_isub hx hb dX9_told_34 ?_
      exact x_retIN C hr hk hw hmo hf (by decide) (by decide) dX9_told_35
  · have hf := ifp hf c
    refine lv_aload_n hx hb dX9_told_9 rfl (lv_at hl 0 rfl) ?_
    refine lv_iconst hx hb dX9_told_10 ki_0 ?_
    obtain ⟨r122, m121, cm121, hf⟩ := b2_el (o := f_X9_finding a0 0 m101) hf
    refine x_callVi (As := [.int 0]) (rest := []) C hl.1 hw cb_X9_63 cv_X9_finding (k_X9_finding hw.2.2.2.2 ta0 cm121) ta0 rfl rfl (by decide) ⟨(by decide), (by decide)⟩ rfl (Nat.le_of_ble_eq_true rfl) dX9_told_11 (fun H locs hw tr122 => ?_)
    exact x_retIN C hr hk hw hmo hf (by decide) (by decide) dX9_told_14
set_option maxHeartbeats 4000000 in
set_option maxRecDepth 100000 in
theorem k_X9_top {l : Launch} {D : va_G} {E : Nat → ClassId} {tU : Nat} {τ : Nat → Option XTy} {a0 : Nat} {x1 : Int32} {x2 : Int32} {m0 mE : XMem} {rE : Int32} (hm : mT m0 = τ) (ta0 : τ a0 = some (.inl 9)) (hf : f_X9_top a0 x1 x2 m0 = some (rE, mE)) : Ct l yX9_top cX9_top 4 ((Option.some FieldType.int)) 2 0 0 D E tU [.ref a0, .int x1, .int x2] m0 (some (.int rE)) mE (mT mE = mT m0 ∧ True) := by
  subst hm
  refine Ct.of (by decide) (Nat.le_of_ble_eq_true rfl) (fun p e s m below meth c ls C hr hk hnm hl hw => ?_)
  have hx := C.1
  have hb := C.2.1
  have hl : lv_has ls 4 [(0, .ref a0), (1, .int x1), (2, .int x2)] := hl
  unfold f_X9_top at hf
  refine lv_aload_n hx hb dX9_top_0 rfl (lv_at hl 0 rfl) ?_
  obtain ⟨b101, eb101, hf⟩ := fo_el hf
  refine x_getR C hw fa_X9_10 (Or.inl ⟨_, rfl⟩) ta0 eb101 dX9_top_1 (fun tb101 => ?_)
  have tb101 : (mT m0) b101 = some (.inl 8) := tb101
  refine lv_iload_n hx hb dX9_top_4 rfl (lv_at hl 1 rfl) ?_
  obtain ⟨o103, m102, cm102, hf⟩ := b2_el (o := f_X8_cellAt b101 x1 m0) hf
  have hmp := hw.2.2.2.2
  refine x_callVq (As := [.int x1]) (rest := []) C hl.1 hw cb_X9_96 cv_X8_cellAt (k_X8_cellAt hw.2.2.2.2 tb101 cm102) tb101 rfl rfl (by decide) ⟨Nat.le_refl _, Nat.le_refl _⟩ rfl (Nat.le_of_ble_eq_true rfl) dX9_top_5 (fun H locs hw to103 => ?_)
  have to103 : ∀ b, o103 = some b → (mT m0) b = some (.inl 0) := fun b h => by have q := to103 b h; rw [hmp] at q; exact q
  refine x_astore_nQ (lv' := [(3, va_rf o103), (0, .ref a0), (1, .int x1), (2, .int x2)]) hx hb dX9_top_8 rfl hl (by decide) rfl (fun ls hl => ?_)
  refine x_aload_nQ hx hb dX9_top_9 rfl (lv_at hl 0 rfl) ?_
  cases o103 with
  | none =>
    have hf := oc_n hf
    refine lv_ifnullN (tgt := 24) hx hb dX9_top_10 (by decide) ?_
    refine lv_aload_n hx hb dX9_top_24 rfl (lv_at hl 1 rfl) ?_
    refine lv_iconst hx hb dX9_top_25 ki_0 ?_
    obtain ⟨r106, m105, cm105, hf⟩ := b2_el (o := f_X9_finding a0 0 m102) hf
    refine x_callVi (As := [.int 0]) (rest := []) C hl.1 hw cb_X9_63 cv_X9_finding (k_X9_finding hw.2.2.2.2 ta0 cm105) ta0 rfl rfl (by decide) ⟨Nat.le_refl _, Nat.le_refl _⟩ rfl (Nat.le_of_ble_eq_true rfl) dX9_top_26 (fun H locs hw tr106 => ?_)
    exact x_retI C hr hk hw  hf (by decide) (by decide) dX9_top_29
  | some b104 =>
    have hf := oc_s hf
    have tb104 := to103 b104 rfl
    refine lv_ifnull hx hb dX9_top_10 ?_
    refine lv_iload_n hx hb dX9_top_13 rfl (lv_at hl 3 rfl) ?_
    refine lv_iconst hx hb dX9_top_14 ki_1 ?_
    refine lv_sipush hx hb dX9_top_15 ks_9999 ?_
    obtain ⟨r108, m107, cm107, hf⟩ := b2_el (o := f_X9_within x2 1 9999 m102) hf
    refine x_callSi (As := [.int x2, .int 1, .int 9999]) (rest := []) C hl.1 hw cb_X9_59 cs_X9_within (k_X9_within hw.2.2.2.2  cm107) rfl (by decide) ⟨Nat.le_refl _, Nat.le_refl _⟩ rfl (Nat.le_of_ble_eq_true rfl) dX9_top_18 (fun H locs hw tr108 => ?_)
    refine lv_if_ne (tgt := 30) hx hb dX9_top_21 (by decide) (fun c => ?_) (fun c => ?_)
    · have hf := ifn hf c
      refine lv_aload_n hx hb dX9_top_30 rfl (lv_at hl 0 rfl) ?_
      refine lv_sipush hx hb dX9_top_31 ks_9999 ?_
      refine lv_aload_n hx hb dX9_top_34 rfl (lv_at hl 0 rfl) ?_
      refine x_getI C hw fa_X9_90 tb104 dX9_top_35 ?_
      refine lv_iload_n hx hb dX9_top_38 rfl (lv_at hl 3 rfl) ?_
      refine lv_iadd hx hb dX9_top_39 ?_
      refine x_mmin C hl.1 km_X9_100 (by decide) (Nat.le_of_ble_eq_true rfl) (by decide) (Nat.zero_le _) (Nat.zero_le _) dX9_top_40 ?_
      refine lv_topi (fun x109 ex109 => ?_)
      have hf := nm_el hf ex109
      refine x_putI C hw fa_X9_90 tb104 dX9_top_43 (fun m110 H locs em110 hw => ?_)
      have hf := nm_el hf em110
      refine lv_aload_n hx hb dX9_top_46 rfl (lv_at hl 0 rfl) ?_
      refine x_getI C hw fa_X9_90 tb104 dX9_top_47 ?_
      exact x_retI C hr hk hw  hf (by decide) (by decide) dX9_top_50
    · have hf := ifp hf c
      refine lv_aload_n hx hb dX9_top_24 rfl (lv_at hl 1 rfl) ?_
      refine lv_iconst hx hb dX9_top_25 ki_0 ?_
      obtain ⟨r112, m111, cm111, hf⟩ := b2_el (o := f_X9_finding a0 0 m107) hf
      refine x_callVi (As := [.int 0]) (rest := []) C hl.1 hw cb_X9_63 cv_X9_finding (k_X9_finding hw.2.2.2.2 ta0 cm111) ta0 rfl rfl (by decide) ⟨Nat.le_refl _, Nat.le_refl _⟩ rfl (Nat.le_of_ble_eq_true rfl) dX9_top_26 (fun H locs hw tr112 => ?_)
      exact x_retI C hr hk hw  hf (by decide) (by decide) dX9_top_29
set_option maxHeartbeats 4000000 in
set_option maxRecDepth 100000 in
theorem k_X9_undo {l : Launch} {D : va_G} {E : Nat → ClassId} {tU : Nat} {τ : Nat → Option XTy} {a0 : Nat} {m0 mE : XMem} {rE : Int32} (hm : mT m0 = τ) (ta0 : τ a0 = some (.inl 9)) (hf : f_X9_undo a0 m0 = some (rE, mE)) : Ct l yX9_undo cX9_undo 1 ((Option.some FieldType.int)) 3 0 0 D E tU [.ref a0] m0 (some (.int rE)) mE (mT mE = mT m0 ∧ True) := by
  subst hm
  refine Ct.of (by decide) (Nat.le_of_ble_eq_true rfl) (fun p e s m below meth c ls C hr hk hnm hl hw => ?_)
  have hx := C.1
  have hb := C.2.1
  have hl : lv_has ls 1 [(0, .ref a0)] := hl
  unfold f_X9_undo at hf
  refine lv_aload_n hx hb dX9_undo_0 rfl (lv_at hl 0 rfl) ?_
  refine x_getZ C hw fa_X9_19 ta0 dX9_undo_1 ?_
  refine lv_if_ne (tgt := 13) hx hb dX9_undo_4 (by decide) (fun c => ?_) (fun c => ?_)
  · have hf := ifn hf c
    refine lv_aload_n hx hb dX9_undo_13 rfl (lv_at hl 0 rfl) ?_
    obtain ⟨b101, eb101, hf⟩ := fo_el hf
    refine x_getR C hw fa_X9_10 (Or.inl ⟨_, rfl⟩) ta0 eb101 dX9_undo_14 (fun tb101 => ?_)
    have tb101 : (mT m0) b101 = some (.inl 8) := tb101
    refine lv_aload_n hx hb dX9_undo_17 rfl (lv_at hl 0 rfl) ?_
    obtain ⟨b102, eb102, hf⟩ := fo_el hf
    refine x_getR C hw fa_X9_16 (Or.inl ⟨_, rfl⟩) ta0 eb102 dX9_undo_18 (fun tb102 => ?_)
    have tb102 : (mT m0) b102 = some (.inl 8) := tb102
    obtain ⟨m103, cm103, hf⟩ := b1_el (o := f_X8_take b101 b102 m0) hf
    refine x_callVv (As := [.ref b102]) (rest := []) C hl.1 hw cb_X9_345 cv_X8_take (k_X8_take hw.2.2.2.2 tb101 tb102 cm103) tb101 rfl rfl (by decide) ⟨Nat.le_refl _, Nat.le_refl _⟩ rfl (Nat.le_of_ble_eq_true rfl) dX9_undo_21 (fun H locs hw tm103 => ?_)
    refine lv_aload_n hx hb dX9_undo_24 rfl (lv_at hl 0 rfl) ?_
    obtain ⟨b104, eb104, hf⟩ := fo_el hf
    refine x_getR C hw fa_X9_10 (Or.inl ⟨_, rfl⟩) ta0 eb104 dX9_undo_25 (fun tb104 => ?_)
    have tb104 : (mT m0) b104 = some (.inl 8) := tb104
    refine x_getI C hw fa_X9_106 tb104 dX9_undo_28 ?_
    exact x_retI C hr hk hw  hf (by decide) (by decide) dX9_undo_31
  · have hf := ifp hf c
    refine lv_aload_n hx hb dX9_undo_7 rfl (lv_at hl 0 rfl) ?_
    refine lv_iconst hx hb dX9_undo_8 ki_3 ?_
    obtain ⟨r106, m105, cm105, hf⟩ := b2_el (o := f_X9_finding a0 3 m0) hf
    refine x_callVi (As := [.int 3]) (rest := []) C hl.1 hw cb_X9_63 cv_X9_finding (k_X9_finding hw.2.2.2.2 ta0 cm105) ta0 rfl rfl (by decide) ⟨Nat.le_refl _, Nat.le_refl _⟩ rfl (Nat.le_of_ble_eq_true rfl) dX9_undo_9 (fun H locs hw tr106 => ?_)
    exact x_retI C hr hk hw  hf (by decide) (by decide) dX9_undo_12
set_option maxHeartbeats 4000000 in
set_option maxRecDepth 100000 in
theorem w_X9_weeks_h56 {p : Program} {l : Launch} {e : Env} {s : State} {m : MethodId} {args : Array Value} {below : List Frame} {meth : Method} {c : Code} {D : va_G} {E : Nat → ClassId} {tU : Nat} {m0 mE : XMem} {rE : Int32} (C : Cx p s m args c cX9_weeks 9 RX9 D E (Am m0) tU) (hr : meth.sig.returnType = ((Option.some FieldType.int))) (hk : meth.locks = false) (hnm : meth.name = yX9_weeks.name) {a0 : Nat} {a3 : Nat} {a4 : Nat} (ta0 : mT m0 a0 = some (.inl 9)) (ta3 : mT m0 a3 = some (.inl 4)) (ta4 : mT m0 a4 = some (.inl 0)) {k126 : Int32 →  XMem → Option (Int32 × XMem)} (hk126 : ∀ (y5 : Int32) (mu : XMem) (H : Heap) (locs : List Loc) (ls : Array Slot), lv_has ls 9 [(5, .int y5)] → Wd D E (Am m0) s (mT m0) mu H locs →   k126 y5 mu = some (rE, mE) → W p l e (rmN 7 0 0) s m args below meth c H locs 0 0 (MQ below (XQ D E (Am m0) (some (.int rE)) mE (mT mE = mT m0 ∧ True)) args s 0 0 (Am m0)) (F0 m 126 ls [])) : ∀ (n : Nat) (x5 : Int32) (x6 : Int32) (mu : XMem) (H : Heap) (locs : List Loc) (ls : Array Slot), lv_has ls 9 [(0, .ref a0), (3, .ref a3), (4, .ref a4), (5, .int x5), (6, .int x6)] → Wd D E (Am m0) s (mT m0) mu H locs → f_X9_weeks_h56 a0 a3 a4 k126 n x5 x6 mu = some (rE, mE) → W p l e (rmN 7 0 0) s m args below meth c H locs 0 0 (MQ below (XQ D E (Am m0) (some (.int rE)) mE (mT mE = mT m0 ∧ True)) args s 0 0 (Am m0)) (F0 m 56 ls []) := by
  have hx := C.1
  have hb := C.2.1
  intro n
  induction n with
  | zero =>
    intros
    rename_i hf
    cases hf
  | succ n ih =>
    intro x5 x6 mu H locs ls hl hw hf
    rw [f_X9_weeks_h56] at hf
    refine lv_iload hx hb dX9_weeks_56 (lv_at hl 4 rfl) ?_
    refine lv_aload_n hx hb dX9_weeks_58 rfl (lv_at hl 1 rfl) ?_
    refine x_getI C hw fa_X9_319 ta3 dX9_weeks_59 ?_
    refine lv_icmp_ge (tgt := 126) hx hb dX9_weeks_62 (by decide) (fun c => ?_) (fun c => ?_)
    · have hf := ifp hf c
      exact hk126 _ _ _ _ _ (lv_sub hl [3] rfl) hw hf
    · have hf := ifn hf c
      refine lv_aload_n hx hb dX9_weeks_65 rfl (lv_at hl 0 rfl) ?_
      obtain ⟨b116, eb116, hf⟩ := fo_el hf
      refine x_getR C hw fa_X9_10 (Or.inl ⟨_, rfl⟩) ta0 eb116 dX9_weeks_66 (fun tb116 => ?_)
      have tb116 : (mT m0) b116 = some (.inl 8) := tb116
      refine x_getI C hw fa_X9_106 tb116 dX9_weeks_69 ?_
      refine lv_sipush hx hb dX9_weeks_72 ks_2000 ?_
      refine lv_icmp_ge (tgt := 126) hx hb dX9_weeks_75 (by decide) (fun c => ?_) (fun c => ?_)
      · have hf := ifp hf c
        exact hk126 _ _ _ _ _ (lv_sub hl [3] rfl) hw hf
      · have hf := ifn hf c
        refine lv_aload_n hx hb dX9_weeks_78 rfl (lv_at hl 1 rfl) ?_
        refine lv_iload hx hb dX9_weeks_79 (lv_at hl 4 rfl) ?_
        obtain ⟨l118, m117, cm117, hf⟩ := b2_el (o := f_X4_numberAt a3 x6 mu) hf
        refine x_callVl (As := [.int x6]) (rest := []) C hl.1 hw cb_X9_320 cv_X4_numberAt (k_X4_numberAt hw.2.2.2.2 ta3 cm117) ta3 rfl rfl (by decide) ⟨Nat.le_refl _, Nat.le_refl _⟩ rfl (Nat.le_of_ble_eq_true rfl) dX9_weeks_81 (fun H locs hw tl118 => ?_)
        refine lv_lstore (lv' := [(7, .long l118), (0, .ref a0), (3, .ref a3), (4, .ref a4), (5, .int x5), (6, .int x6)]) hx hb dX9_weeks_84 hl (by decide) rfl (fun ls hl => ?_)
        refine lv_lload hx hb dX9_weeks_86 (lv_at hl 0 rfl) ?_
        refine lv_lconst hx hb dX9_weeks_88 kl_0 ?_
        refine W.lcmp hx hb dX9_weeks_89 ?_
        refine lv_if_lt (tgt := 120) hx hb dX9_weeks_90 (by decide) (fun c => ?_) (fun c => ?_)
        · have hf := ifp hf c
          obtain ⟨x119, ex119⟩ : ∃ z : Int32, z = x6 + 1 := ⟨_, rfl⟩
          have hf := nm_el hf ex119
          refine lv_iinc (v := x119) (lv' := [(6, .int x119), (7, .long l118), (0, .ref a0), (3, .ref a3), (4, .ref a4), (5, .int x5)]) hx hb dX9_weeks_120 hl (k := 5) rfl (by rw [ex119, ki_1]) (by decide) rfl (fun ls hl => ?_)
          refine lv_goto (tgt := 56) hx hb dX9_weeks_123 (by decide) ?_
          exact ih _ _ _ _ _ _ (lv_sub hl [2, 3, 4, 5, 0] rfl) hw hf
        · have hf := ifn hf c
          refine lv_lload hx hb dX9_weeks_93 (lv_at hl 0 rfl) ?_
          refine lv_ldc2 hx hb C.2.2.2.1 (C.2.2.2.2.1 _ kl_X9_343) dX9_weeks_95 ?_
          refine W.lcmp hx hb dX9_weeks_98 ?_
          refine lv_if_gt (tgt := 120) hx hb dX9_weeks_99 (by decide) (fun c => ?_) (fun c => ?_)
          · have hf := ifp hf c
            obtain ⟨x120, ex120⟩ : ∃ z : Int32, z = x6 + 1 := ⟨_, rfl⟩
            have hf := nm_el hf ex120
            refine lv_iinc (v := x120) (lv' := [(6, .int x120), (7, .long l118), (0, .ref a0), (3, .ref a3), (4, .ref a4), (5, .int x5)]) hx hb dX9_weeks_120 hl (k := 5) rfl (by rw [ex120, ki_1]) (by decide) rfl (fun ls hl => ?_)
            refine lv_goto (tgt := 56) hx hb dX9_weeks_123 (by decide) ?_
            exact ih _ _ _ _ _ _ (lv_sub hl [2, 3, 4, 5, 0] rfl) hw hf
          · have hf := ifn hf c
            refine lv_aload hx hb dX9_weeks_102 (lv_at hl 3 rfl) ?_
            refine lv_lload hx hb dX9_weeks_104 (lv_at hl 0 rfl) ?_
            refine lv_l2i (v := (Int64.toInt32 l118)) hx hb dX9_weeks_106 rfl ?_
            refine x_putI C hw fa_X9_84 ta4 dX9_weeks_107 (fun m121 H locs em121 hw => ?_)
            have hf := nm_el hf em121
            refine lv_aload_n hx hb dX9_weeks_110 rfl (lv_at hl 1 rfl) ?_
            obtain ⟨b122, eb122, hf⟩ := fo_el hf
            refine x_getR C hw fa_X9_10 (Or.inl ⟨_, rfl⟩) ta0 eb122 dX9_weeks_111 (fun tb122 => ?_)
            have tb122 : (mT m0) b122 = some (.inl 8) := tb122
            obtain ⟨m123, cm123, hf⟩ := b1_el (o := f_X8_passHour b122 m121) hf
            refine x_callVv (As := []) (rest := []) C hl.1 hw cb_X9_109 cv_X8_passHour (k_X8_passHour hw.2.2.2.2 tb122 cm123) tb122 rfl rfl (by decide) ⟨Nat.le_refl _, Nat.le_refl _⟩ rfl (Nat.le_of_ble_eq_true rfl) dX9_weeks_114 (fun H locs hw tm123 => ?_)
            obtain ⟨x124, ex124⟩ : ∃ z : Int32, z = x5 + 1 := ⟨_, rfl⟩
            have hf := nm_el hf ex124
            refine lv_iinc (v := x124) (lv' := [(5, .int x124), (7, .long l118), (0, .ref a0), (3, .ref a3), (4, .ref a4), (6, .int x6)]) hx hb dX9_weeks_117 hl (k := 4) rfl (by rw [ex124, ki_1]) (by decide) rfl (fun ls hl => ?_)
            obtain ⟨x125, ex125⟩ : ∃ z : Int32, z = x6 + 1 := ⟨_, rfl⟩
            have hf := nm_el hf ex125
            refine lv_iinc (v := x125) (lv' := [(6, .int x125), (5, .int x124), (7, .long l118), (0, .ref a0), (3, .ref a3), (4, .ref a4)]) hx hb dX9_weeks_120 hl (k := 5) rfl (by rw [ex125, ki_1]) (by decide) rfl (fun ls hl => ?_)
            refine lv_goto (tgt := 56) hx hb dX9_weeks_123 (by decide) ?_
            exact ih _ _ _ _ _ _ (lv_sub hl [3, 4, 5, 1, 0] rfl) hw hf
set_option maxHeartbeats 4000000 in
set_option maxRecDepth 100000 in
theorem k_X9_weeks {l : Launch} {D : va_G} {E : Nat → ClassId} {tU : Nat} {τ : Nat → Option XTy} {a0 : Nat} {x1 : Int32} {x2 : Int32} {m0 mE : XMem} {rE : Int32} (hm : mT m0 = τ) (ta0 : τ a0 = some (.inl 9)) (hf : f_X9_weeks a0 x1 x2 m0 = some (rE, mE)) : Ct l yX9_weeks cX9_weeks 9 ((Option.some FieldType.int)) 7 0 0 D E tU [.ref a0, .int x1, .int x2] m0 (some (.int rE)) mE (mT mE = mT m0 ∧ True) := by
  subst hm
  refine Ct.of (by decide) (Nat.le_of_ble_eq_true rfl) (fun p e s m below meth c ls C hr hk hnm hl hw => ?_)
  have hx := C.1
  have hb := C.2.1
  have hl : lv_has ls 9 [(0, .ref a0), (1, .int x1), (2, .int x2)] := hl
  unfold f_X9_weeks at hf
  refine lv_aload_n hx hb dX9_weeks_0 rfl (lv_at hl 0 rfl) ?_
  refine lv_iload_n hx hb dX9_weeks_1 rfl (lv_at hl 1 rfl) ?_
  obtain ⟨o102, m101, cm101, hf⟩ := b2_el (o := f_X9_sheetAt a0 x1 m0) hf
  have hmp := hw.2.2.2.2
  refine x_callVq (As := [.int x1]) (rest := []) C hl.1 hw cb_X9_312 cv_X9_sheetAt (k_X9_sheetAt hw.2.2.2.2 ta0 cm101) ta0 rfl rfl (by decide) ⟨Nat.le_refl _, Nat.le_refl _⟩ rfl (Nat.le_of_ble_eq_true rfl) dX9_weeks_2 (fun H locs hw to102 => ?_)
  have to102 : ∀ b, o102 = some b → (mT m0) b = some (.inl 4) := fun b h => by have q := to102 b h; rw [hmp] at q; exact q
  refine x_astore_nQ (lv' := [(3, va_rf o102), (0, .ref a0), (1, .int x1), (2, .int x2)]) hx hb dX9_weeks_5 rfl hl (by decide) rfl (fun ls hl => ?_)
  refine x_aload_nQ hx hb dX9_weeks_6 rfl (lv_at hl 0 rfl) ?_
  cases o102 with
  | none =>
    have hf := oc_n hf
    refine lv_ifnonnullN hx hb dX9_weeks_7 ?_
    refine lv_aload_n hx hb dX9_weeks_10 rfl (lv_at hl 1 rfl) ?_
    refine lv_iconst hx hb dX9_weeks_11 ki_0 ?_
    obtain ⟨r105, m104, cm104, hf⟩ := b2_el (o := f_X9_finding a0 0 m101) hf
    refine x_callVi (As := [.int 0]) (rest := []) C hl.1 hw cb_X9_63 cv_X9_finding (k_X9_finding hw.2.2.2.2 ta0 cm104) ta0 rfl rfl (by decide) ⟨Nat.le_refl _, Nat.le_refl _⟩ rfl (Nat.le_of_ble_eq_true rfl) dX9_weeks_12 (fun H locs hw tr105 => ?_)
    exact x_retI C hr hk hw  hf (by decide) (by decide) dX9_weeks_15
  | some b103 =>
    have hf := oc_s hf
    have tb103 := to102 b103 rfl
    refine lv_ifnonnull (tgt := 16) hx hb dX9_weeks_7 (by decide) ?_
    refine lv_aload_n hx hb dX9_weeks_16 rfl (lv_at hl 0 rfl) ?_
    refine x_getI C hw fa_X9_316 tb103 dX9_weeks_17 ?_
    refine lv_if_ne (tgt := 29) hx hb dX9_weeks_20 (by decide) (fun c => ?_) (fun c => ?_)
    · have hf := ifn hf c
      refine lv_aload_n hx hb dX9_weeks_29 rfl (lv_at hl 1 rfl) ?_
      obtain ⟨b106, eb106, hf⟩ := fo_el hf
      refine x_getR C hw fa_X9_10 (Or.inl ⟨_, rfl⟩) ta0 eb106 dX9_weeks_30 (fun tb106 => ?_)
      have tb106 : (mT m0) b106 = some (.inl 8) := tb106
      refine lv_iload_n hx hb dX9_weeks_33 rfl (lv_at hl 3 rfl) ?_
      obtain ⟨o108, m107, cm107, hf⟩ := b2_el (o := f_X8_cellAt b106 x2 m101) hf
      have hmp := hw.2.2.2.2
      refine x_callVq (As := [.int x2]) (rest := []) C hl.1 hw cb_X9_96 cv_X8_cellAt (k_X8_cellAt hw.2.2.2.2 tb106 cm107) tb106 rfl rfl (by decide) ⟨Nat.le_refl _, Nat.le_refl _⟩ rfl (Nat.le_of_ble_eq_true rfl) dX9_weeks_34 (fun H locs hw to108 => ?_)
      have to108 : ∀ b, o108 = some b → (mT m0) b = some (.inl 0) := fun b h => by have q := to108 b h; rw [hmp] at q; exact q
      refine x_astoreQ (lv' := [(4, va_rf o108), (3, .ref b103), (0, .ref a0), (1, .int x1), (2, .int x2)]) hx hb dX9_weeks_37 hl (by decide) rfl (fun ls hl => ?_)
      refine x_aloadQ hx hb dX9_weeks_39 (lv_at hl 0 rfl) ?_
      cases o108 with
      | none =>
        have hf := oc_n hf
        refine lv_ifnonnullN hx hb dX9_weeks_41 ?_
        refine lv_aload_n hx hb dX9_weeks_44 rfl (lv_at hl 2 rfl) ?_
        refine lv_iconst hx hb dX9_weeks_45 ki_0 ?_
        obtain ⟨r111, m110, cm110, hf⟩ := b2_el (o := f_X9_finding a0 0 m107) hf
        refine x_callVi (As := [.int 0]) (rest := []) C hl.1 hw cb_X9_63 cv_X9_finding (k_X9_finding hw.2.2.2.2 ta0 cm110) ta0 rfl rfl (by decide) ⟨Nat.le_refl _, Nat.le_refl _⟩ rfl (Nat.le_of_ble_eq_true rfl) dX9_weeks_46 (fun H locs hw tr111 => ?_)
        exact x_retI C hr hk hw  hf (by decide) (by decide) dX9_weeks_49
      | some b109 =>
        have hf := oc_s hf
        have tb109 := to108 b109 rfl
        refine lv_ifnonnull (tgt := 50) hx hb dX9_weeks_41 (by decide) ?_
        refine lv_iconst hx hb dX9_weeks_50 ki_0 ?_
        refine lv_istore (lv' := [(5, .int 0), (4, .ref b109), (3, .ref b103), (0, .ref a0), (1, .int x1), (2, .int x2)]) hx hb dX9_weeks_51 hl (by decide) rfl (fun ls hl => ?_)
        refine lv_iconst hx hb dX9_weeks_53 ki_0 ?_
        refine lv_istore (lv' := [(6, .int 0), (5, .int 0), (4, .ref b109), (3, .ref b103), (0, .ref a0), (1, .int x1), (2, .int x2)]) hx hb dX9_weeks_54 hl (by decide) rfl (fun ls hl => ?_)
        refine w_X9_weeks_h56 C hr hk hnm ta0 tb103 tb109 ?_ 2000 _ _ _ _ _ _ (lv_sub hl [4, 3, 2, 1, 0] rfl) hw hf
        intro x113 m112 H locs ls hl hw hf
        refine lv_iload hx hb dX9_weeks_126 (lv_at hl 0 rfl) ?_
        exact x_retI C hr hk hw  hf (by decide) (by decide) dX9_weeks_128
    · have hf := ifp hf c
      refine lv_aload_n hx hb dX9_weeks_23 rfl (lv_at hl 1 rfl) ?_
      refine lv_iconst hx hb dX9_weeks_24 ki_5 ?_
      obtain ⟨r115, m114, cm114, hf⟩ := b2_el (o := f_X9_finding a0 5 m101) hf
      refine x_callVi (As := [.int 5]) (rest := []) C hl.1 hw cb_X9_63 cv_X9_finding (k_X9_finding hw.2.2.2.2 ta0 cm114) ta0 rfl rfl (by decide) ⟨Nat.le_refl _, Nat.le_refl _⟩ rfl (Nat.le_of_ble_eq_true rfl) dX9_weeks_25 (fun H locs hw tr115 => ?_)
      exact x_retI C hr hk hw  hf (by decide) (by decide) dX9_weeks_28
set_option maxHeartbeats 4000000 in
set_option maxRecDepth 100000 in
theorem k_X9_wipe {l : Launch} {D : va_G} {E : Nat → ClassId} {tU : Nat} {τ : Nat → Option XTy} {a0 : Nat} {m0 mE : XMem} {rE : Int32} (hm : mT m0 = τ) (ta0 : τ a0 = some (.inl 9)) (hf : f_X9_wipe a0 m0 = some (rE, mE)) : Ct l yX9_wipe cX9_wipe 2 ((Option.some FieldType.int)) 1 0 0 D E tU [.ref a0] m0 (some (.int rE)) mE (mT mE = mT m0 ∧ True) := by
  subst hm
  refine Ct.of (by decide) (Nat.le_of_ble_eq_true rfl) (fun p e s m below meth c ls C hr hk hnm hl hw => ?_)
  have hx := C.1
  have hb := C.2.1
  have hl : lv_has ls 2 [(0, .ref a0)] := hl
  unfold f_X9_wipe at hf
  refine lv_aload_n hx hb dX9_wipe_0 rfl (lv_at hl 0 rfl) ?_
  obtain ⟨b101, eb101, hf⟩ := fo_el hf
  refine x_getR C hw fa_X9_26 (Or.inl ⟨_, rfl⟩) ta0 eb101 dX9_wipe_1 (fun tb101 => ?_)
  have tb101 : (mT m0) b101 = some (.inl 5) := tb101
  refine x_getI C hw fa_X9_156 tb101 dX9_wipe_4 ?_
  refine lv_topi (fun x102 ex102 => ?_)
  have hf := nm_el hf ex102
  refine lv_istore_n (lv' := [(1, .int x102), (0, .ref a0)]) hx hb dX9_wipe_7 rfl hl (by decide) rfl (fun ls hl => ?_)
  refine lv_aload_n hx hb dX9_wipe_8 rfl (lv_at hl 1 rfl) ?_
  obtain ⟨b103, eb103, hf⟩ := fo_el hf
  refine x_getR C hw fa_X9_26 (Or.inl ⟨_, rfl⟩) ta0 eb103 dX9_wipe_9 (fun tb103 => ?_)
  have tb103 : (mT m0) b103 = some (.inl 5) := tb103
  refine lv_iconst hx hb dX9_wipe_12 ki_0 ?_
  refine x_putI C hw fa_X9_156 tb103 dX9_wipe_13 (fun m104 H locs em104 hw => ?_)
  have hf := nm_el hf em104
  refine lv_iload_n hx hb dX9_wipe_16 rfl (lv_at hl 0 rfl) ?_
  exact x_retI C hr hk hw  hf (by decide) (by decide) dX9_wipe_17
set_option maxHeartbeats 4000000 in
set_option maxRecDepth 100000 in
theorem k_X9_write {l : Launch} {D : va_G} {E : Nat → ClassId} {tU : Nat} {τ : Nat → Option XTy} {a0 : Nat} {x1 : Int32} {x2 : Int32} {l3 : Int64} {m0 mE : XMem} {rE : Int64} (hm : mT m0 = τ) (ta0 : τ a0 = some (.inl 9)) (hf : f_X9_write a0 x1 x2 l3 m0 = some (rE, mE)) : Ct l yX9_write cX9_write 8 ((Option.some FieldType.long)) 3 0 0 D E tU [.ref a0, .int x1, .int x2, .long l3] m0 (some (.long rE)) mE (mT mE = mT m0 ∧ True) := by
  subst hm
  refine Ct.of (by decide) (Nat.le_of_ble_eq_true rfl) (fun p e s m below meth c ls C hr hk hnm hl hw => ?_)
  have hx := C.1
  have hb := C.2.1
  have hl : lv_has ls 8 [(0, .ref a0), (1, .int x1), (2, .int x2), (3, .long l3)] := hl
  unfold f_X9_write at hf
  refine lv_aload_n hx hb dX9_write_0 rfl (lv_at hl 0 rfl) ?_
  refine lv_iload_n hx hb dX9_write_1 rfl (lv_at hl 1 rfl) ?_
  obtain ⟨o102, m101, cm101, hf⟩ := b2_el (o := f_X9_sheetAt a0 x1 m0) hf
  have hmp := hw.2.2.2.2
  refine x_callVq (As := [.int x1]) (rest := []) C hl.1 hw cb_X9_312 cv_X9_sheetAt (k_X9_sheetAt hw.2.2.2.2 ta0 cm101) ta0 rfl rfl (by decide) ⟨Nat.le_refl _, Nat.le_refl _⟩ rfl (Nat.le_of_ble_eq_true rfl) dX9_write_2 (fun H locs hw to102 => ?_)
  have to102 : ∀ b, o102 = some b → (mT m0) b = some (.inl 4) := fun b h => by have q := to102 b h; rw [hmp] at q; exact q
  refine x_astoreQ (lv' := [(5, va_rf o102), (0, .ref a0), (1, .int x1), (2, .int x2), (3, .long l3)]) hx hb dX9_write_5 hl (by decide) rfl (fun ls hl => ?_)
  refine x_aloadQ hx hb dX9_write_7 (lv_at hl 0 rfl) ?_
  cases o102 with
  | none =>
    have hf := oc_n hf
    refine lv_ifnonnullN hx hb dX9_write_9 ?_
    refine lv_aload_n hx hb dX9_write_12 rfl (lv_at hl 1 rfl) ?_
    refine lv_iconst hx hb dX9_write_13 ki_0 ?_
    obtain ⟨r105, m104, cm104, hf⟩ := b2_el (o := f_X9_finding a0 0 m101) hf
    refine x_callVi (As := [.int 0]) (rest := []) C hl.1 hw cb_X9_63 cv_X9_finding (k_X9_finding hw.2.2.2.2 ta0 cm104) ta0 rfl rfl (by decide) ⟨Nat.le_refl _, Nat.le_refl _⟩ rfl (Nat.le_of_ble_eq_true rfl) dX9_write_14 (fun H locs hw tr105 => ?_)
    refine lv_i2l (v := (Int32.toInt64 r105)) hx hb dX9_write_17 rfl ?_
    exact x_retL C hr hk hw  hf (by decide) (by decide) dX9_write_18
  | some b103 =>
    have hf := oc_s hf
    have tb103 := to102 b103 rfl
    refine lv_ifnonnull (tgt := 19) hx hb dX9_write_9 (by decide) ?_
    refine lv_aload hx hb dX9_write_19 (lv_at hl 0 rfl) ?_
    refine x_getI C hw fa_X9_316 tb103 dX9_write_21 ?_
    refine lv_if_ne (tgt := 34) hx hb dX9_write_24 (by decide) (fun c => ?_) (fun c => ?_)
    · have hf := ifn hf c
      refine lv_iload_n hx hb dX9_write_34 rfl (lv_at hl 3 rfl) ?_
      refine lv_iconst hx hb dX9_write_35 ki_0 ?_
      refine lv_aload hx hb dX9_write_36 (lv_at hl 0 rfl) ?_
      refine x_getI C hw fa_X9_319 tb103 dX9_write_38 ?_
      refine lv_iconst hx hb dX9_write_41 ki_1 ?_
      refine lv_isub hx hb dX9_write_42 ?_
      obtain ⟨r107, m106, cm106, hf⟩ := b2_el (o := f_X9_within x2 0 ((mI m101 b103 1) - 1) m101) hf
      refine x_callSi (As := [.int x2, .int 0, .int ((mI m101 b103 1) - 1)]) (rest := []) C hl.1 hw cb_X9_59 cs_X9_within (k_X9_within hw.2.2.2.2  cm106) rfl (by decide) ⟨Nat.le_refl _, Nat.le_refl _⟩ rfl (Nat.le_of_ble_eq_true rfl) dX9_write_43 (fun H locs hw tr107 => ?_)
      refine lv_if_ne (tgt := 56) hx hb dX9_write_46 (by decide) (fun c => ?_) (fun c => ?_)
      · have hf := ifn hf c
        refine lv_aload hx hb dX9_write_56 (lv_at hl 0 rfl) ?_
        refine lv_iload_n hx hb dX9_write_58 rfl (lv_at hl 3 rfl) ?_
        obtain ⟨l109, m108, cm108, hf⟩ := b2_el (o := f_X4_numberAt b103 x2 m106) hf
        refine x_callVl (As := [.int x2]) (rest := []) C hl.1 hw cb_X9_320 cv_X4_numberAt (k_X4_numberAt hw.2.2.2.2 tb103 cm108) tb103 rfl rfl (by decide) ⟨Nat.le_refl _, Nat.le_refl _⟩ rfl (Nat.le_of_ble_eq_true rfl) dX9_write_59 (fun H locs hw tl109 => ?_)
        refine lv_lstore (lv' := [(6, .long l109), (5, .ref b103), (0, .ref a0), (1, .int x1), (2, .int x2), (3, .long l3)]) hx hb dX9_write_62 hl (by decide) rfl (fun ls hl => ?_)
        refine lv_aload hx hb dX9_write_64 (lv_at hl 1 rfl) ?_
        refine lv_iload_n hx hb dX9_write_66 rfl (lv_at hl 4 rfl) ?_
        refine lv_lload_n hx hb dX9_write_67 rfl (lv_at hl 5 rfl) ?_
        obtain ⟨m110, cm110, hf⟩ := b1_el (o := f_X4_put b103 x2 l3 m108) hf
        refine x_callVv (As := [.int x2, .long l3]) (rest := []) C hl.1 hw cb_X9_327 cv_X4_put (k_X4_put hw.2.2.2.2 tb103 cm110) tb103 rfl rfl (by decide) ⟨Nat.le_refl _, Nat.le_refl _⟩ rfl (Nat.le_of_ble_eq_true rfl) dX9_write_68 (fun H locs hw tm110 => ?_)
        refine lv_lload hx hb dX9_write_71 (lv_at hl 0 rfl) ?_
        exact x_retL C hr hk hw  hf (by decide) (by decide) dX9_write_73
      · have hf := ifp hf c
        refine lv_aload_n hx hb dX9_write_49 rfl (lv_at hl 1 rfl) ?_
        refine lv_iconst hx hb dX9_write_50 ki_0 ?_
        obtain ⟨r112, m111, cm111, hf⟩ := b2_el (o := f_X9_finding a0 0 m106) hf
        refine x_callVi (As := [.int 0]) (rest := []) C hl.1 hw cb_X9_63 cv_X9_finding (k_X9_finding hw.2.2.2.2 ta0 cm111) ta0 rfl rfl (by decide) ⟨Nat.le_refl _, Nat.le_refl _⟩ rfl (Nat.le_of_ble_eq_true rfl) dX9_write_51 (fun H locs hw tr112 => ?_)
        refine lv_i2l (v := (Int32.toInt64 r112)) hx hb dX9_write_54 rfl ?_
        exact x_retL C hr hk hw  hf (by decide) (by decide) dX9_write_55
    · have hf := ifp hf c
      refine lv_aload_n hx hb dX9_write_27 rfl (lv_at hl 1 rfl) ?_
      refine lv_iconst hx hb dX9_write_28 ki_5 ?_
      obtain ⟨r114, m113, cm113, hf⟩ := b2_el (o := f_X9_finding a0 5 m101) hf
      refine x_callVi (As := [.int 5]) (rest := []) C hl.1 hw cb_X9_63 cv_X9_finding (k_X9_finding hw.2.2.2.2 ta0 cm113) ta0 rfl rfl (by decide) ⟨Nat.le_refl _, Nat.le_refl _⟩ rfl (Nat.le_of_ble_eq_true rfl) dX9_write_29 (fun H locs hw tr114 => ?_)
      refine lv_i2l (v := (Int32.toInt64 r114)) hx hb dX9_write_32 rfl ?_
      exact x_retL C hr hk hw  hf (by decide) (by decide) dX9_write_33
