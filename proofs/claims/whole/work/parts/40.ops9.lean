/-! PURE LAYER 10: copy -/
set_option maxHeartbeats 1000000 in
theorem op_copy {g h : Nat} {μ ν : XMem} (r : Rel g μ h ν) (x1 x2 x3 x4 x5 : Int32) : OpI (f_X9_copy g x1 x2 x3 x4 x5 μ) (f_X10_copy h x1 x2 x3 x4 x5 ν) g h := by
  obtain ⟨r1, r2, r3, r4, r5, r6, r7, r8⟩ := id r
  unfold f_X9_copy f_X10_copy
  simp only [X9_sheetAt_eq r1, b2_mk, X10_isSheet_eq, X9_finding_0 r1, X10_finds_0 r2, X9_finding_5 r1, X10_finds_5 r2, X9_finding_2 r1, X10_finds_2 r2]
  cases hv : vx 4 x1 with
  | none =>
    simp only [Option.map_none, oc_mn, iS_n, if_true]
    exact .mk (r.find (k := 0) (by decide))
  | some s =>
  cases hv3 : vx 4 x3 with
  | none =>
    simp only [Option.map_some, Option.map_none, oc_ms, oc_mn, iS_s, iS_n, one_nz, if_false, if_true]
    exact .mk (r.find (k := 0) (by decide))
  | some t =>
    obtain ⟨rfl, hs⟩ := vx_some hv
    obtain ⟨rfl, ht⟩ := vx_some hv3
    obtain ⟨z, z1, z2, z3, z4, z5⟩ := r5 s hs
    obtain ⟨y, y1, y2, y3, y4, y5⟩ := r5 t ht
    have q := r1.2.2.2.2.2.2.2.2.2.2.2.2.2.2.2.2.2.2.2.2 s hs
    have p := r1.2.2.2.2.2.2.2.2.2.2.2.2.2.2.2.2.2.2.2.2 t ht
    have l19 := r2.1.2.2.2.2.2.2.2.2.2.2.2.2.1
    have l20 := r2.1.2.2.2.2.2.2.2.2.2.2.2.2.2.1
    have n13 := r2.2.2.2.2.2.2.2.2.2.2.2.2.2.1
    have n14 := r2.2.2.2.2.2.2.2.2.2.2.2.2.2.2.1
    have is : ib (nI s) 4 = true := ib_nI hs (by omega)
    have it : ib (nI t) 4 = true := ib_nI ht (by omega)
    have js : (nI s).toNatClampNeg = s := nI_clamp (by omega)
    have jt : (nI t).toNatClampNeg = t := nI_clamp (by omega)
    simp only [Option.map_some, oc_ms, iS_s, one_nz, if_false, l19, l20, fo_mk, n13, n14, is, it, gd_mk, js, jt, z2, y2, z4, y4, nm_mk]
    by_cases c0 : mI ν (h + 13) s = 0
    · simp only [c0, if_true]
      exact .mk (r.find (k := 5) (by decide))
    by_cases c1 : mI ν (h + 13) t = 0
    · simp only [c0, c1, if_true, if_false]
      exact .mk (r.find (k := 5) (by decide))
    by_cases c2 : mI ν (h + 13) s = mI ν (h + 13) t
    · simp only [c0, c1, if_false]
      rw [if_pos c2, if_pos c2]
      have fin : OpI (b2 (f_X9_finding g 0 μ) fun r m => some (r, m)) (some (-1000000001, fdM h 0 ν)) g h := by
        rw [X9_finding_0 r1]
        exact .mk (r.find (k := 0) (by decide))
      by_cases n2 : x2 < 0
      · rw [X4_has_neg (Or.inl n2), b2_mk, if_pos rfl, if_pos n2]
        exact fin
      by_cases n5 : x5 < 0
      · rw [X4_has_neg (Or.inr n5), b2_mk, if_pos rfl, if_neg n2, if_pos n5]
        split <;> exact fin
      obtain ⟨f, hf, rfl⟩ := nI_of n2
      obtain ⟨n, hn, rfl⟩ := nI_of n5
      rw [X4_has_eq z3 z1 hf hn, b2_mk, if_neg n2]
      have e1 : (nI z - nI f < nI n) ↔ ¬ f + n ≤ z := by
        have a1 := nI_toInt (n := z) (by omega)
        have a2 := nI_toInt hf
        have a3 := nI_toInt hn
        have a4 : (nI z - nI f).toInt = (z : Int) - f := by
          rw [Int32.toInt_sub, a1, a2]
          exact Int.bmod_eq_of_le (by omega) (by omega)
        rw [lt_iff]
        omega
      by_cases h1 : f + n ≤ z
      · rw [if_pos h1, if_neg one_nz]
        by_cases n4 : x4 < 0
        · rw [X4_has_neg (Or.inl n4), b2_mk, if_pos rfl, if_pos n4]
          exact fin
        obtain ⟨d, hd, rfl⟩ := nI_of n4
        rw [X4_has_eq y3 y1 hd hn, b2_mk, if_neg n4, if_neg n5, if_neg (fun q => (e1.mp q) h1)]
        have e2 : (nI n ≤ nI y - nI d) ↔ d + n ≤ y := by
          have a1 := nI_toInt (n := y) (by omega)
          have a2 := nI_toInt hd
          have a3 := nI_toInt hn
          have a4 : (nI y - nI d).toInt = (y : Int) - d := by
            rw [Int32.toInt_sub, a1, a2]
            exact Int.bmod_eq_of_le (by omega) (by omega)
          rw [le_iff]
          omega
        by_cases h2 : d + n ≤ y
        · rw [if_pos h2, if_neg one_nz, if_pos (e2.mpr h2), q.2.1, fo_mk, p.2.1, fo_mk, q.2.2, p.2.2]
          have cp : cpb (nI f) (nI d) (nI n) 40 40 = true := by
            unfold cpb
            simp only [n2, n4, n5, decide_false, Bool.not_false, Bool.true_and, nI_clamp hf, nI_clamp hd, nI_clamp hn, Bool.and_eq_true, decide_eq_true_eq]
            omega
          rw [cp, gd_mk, nI_clamp hf, nI_clamp hd, nI_clamp hn]
          have L1 : LM h (mR (cyA h (40 * s + f) n 0 ν)) (mN (cyA h (40 * s + f) n 0 ν)) := by rw [(cyA_r _ _ _).2.1, (cyA_r _ _ _).2.2]; exact r2
          have k1 := X10_copy_l1 (h := h) (x3 := nI t) (x4 := nI d) (N := n) hs (show f + n ≤ 40 by omega) (k := fun m129 => f_X10_copy_h156 h (nI t) (nI d) (nI n) (fun m130 => some (nI n, m130)) 2000 0 m129) n 2000 0 ν r2 (by omega) (by omega)
          have k2 := X10_copy_l2 (h := h) (N := n) ht (show d + n ≤ 40 by omega) (k := fun m130 => some (nI n, m130)) n 2000 0 (cyA h (40 * s + f) n 0 ν) L1 (by omega) (by omega)
          refine OpI.of (r' := nI n) (ν := cyB h (40 * t + d) n 0 (cyA h (40 * s + f) n 0 ν)) rfl (k1.trans k2) rfl (r.sheetCopy hs ht (by omega) (by omega) ?_ ?_ ?_ ?_ ?_)
          · rw [(cyB_r _ _ _).1, (cyA_r _ _ _).1]
          · rw [(cyB_r _ _ _).2.1, (cyA_r _ _ _).2.1]
          · rw [(cyB_r _ _ _).2.2, (cyA_r _ _ _).2.2]
          · intro v v1 v2
            funext w
            rw [cyB_mL, if_neg (by omega), cyA_mL, if_neg (by omega)]
          · intro w
            rw [cyB_mL]
            by_cases hw : 40 * t + d ≤ w ∧ w < 40 * t + d + n
            · rw [if_pos (by omega), if_pos hw, cyA_mL, if_pos (by omega)]
            · rw [if_neg (by omega), if_neg hw, cyA_mL, if_neg (by omega)]
        · rw [if_neg h2, if_pos rfl, if_neg (fun q => h2 (e2.mp q))]
          exact fin
      · rw [if_neg h1, if_pos rfl]
        split
        · exact fin
        · first | rw [if_neg n5, if_pos (e1.mpr h1)] | rw [if_pos (e1.mpr h1)]
          exact fin
    · simp only [c0, c1, if_false]
      rw [if_neg c2, if_neg c2]
      exact .mk (r.find (k := 2) (by decide))
