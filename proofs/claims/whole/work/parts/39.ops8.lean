/-! PURE LAYER 9: write, copy -/
def low (b : Int32) (l : Int64) : Int64 := if b = 8 then Int32.toInt64 (Int8.toInt32 (Int32.toInt8 (Int64.toInt32 l))) else if b = 16 then Int32.toInt64 (Int16.toInt32 (Int32.toInt16 (Int64.toInt32 l))) else l
theorem X4_lowest_eq {a : Nat} {μ : XMem} (l : Int64) : f_X4_lowest a l μ = some (low (mI μ a 0) l, μ) := by
  unfold f_X4_lowest low
  split
  · rfl
  · split <;> rfl
theorem X4_numberAt_eq {a b z i : Nat} {μ : XMem} (h1 : mR μ a 2 = some b) (h2 : mN μ b = 40) (hz : z ≤ 40) (h3 : mI μ a 1 = nI z) (hi : i < z) : f_X4_numberAt a (nI i) μ = some (mL μ b i, μ) := by
  unfold f_X4_numberAt
  rw [if_neg (nI_pos (by omega)), h3, if_neg (nI_ge hi (by omega)), h1, fo_mk, h2, if_pos (nI_lt (by omega) (by omega)), fo_mk, h2, ib_nI (by omega) (by omega), gd_mk, nI_clamp (by omega)]
theorem X4_put_eq {a b z i : Nat} {μ : XMem} (h1 : mR μ a 2 = some b) (h2 : mN μ b = 40) (hz : z ≤ 40) (h3 : mI μ a 1 = nI z) (hi : i < z) (l : Int64) : f_X4_put a (nI i) l μ = some (sL μ b i (low (mI μ a 0) l)) := by
  unfold f_X4_put
  rw [if_neg (nI_pos (by omega)), h3, if_neg (nI_ge hi (by omega)), h1, fo_mk, h2, if_neg (nI_ge (by omega) (by omega)), fo_mk, X4_lowest_eq, b2_mk, h2, ib_nI (by omega) (by omega), gd_mk, nm_mk, nI_clamp (by omega)]
theorem Rel.sheetPut {g h : Nat} {μ ν : XMem} (r : Rel g μ h ν) {s i : Nat} (hs : s < 4) (hi : i < 40) (v : Int64) : Rel g (sL μ (g + 56 + 2 * s) i v) h (sL ν (h + 15) (40 * s + i) v) := by
  obtain ⟨r1, r2, r3, r4, r5, r6, r7, r8⟩ := id r
  refine r.sh (fun q hq => rfl) (fun q hq => mL_ne (by omega)) rfl rfl (fun q h1 h2 => rfl) (fun q h1 _ => mL_ne h1) rfl rfl ?_
  intro t ht
  obtain ⟨y, y1, y2, y3, y4, y5⟩ := r5 t ht
  refine ⟨y, y1, y2, y3, y4, fun k hk => ?_⟩
  by_cases e : t = s
  · subst e
    by_cases e2 : k = i
    · subst e2
      rw [mL_at, mL_at]
    · rw [mL_off e2, mL_off (by omega)]
      exact y5 k hk
  · rw [mL_ne (by omega), mL_off (by omega)]
    exact y5 k hk
set_option maxHeartbeats 1000000 in
theorem op_write {g h : Nat} {μ ν : XMem} (r : Rel g μ h ν) (c x : Int32) (l : Int64) : OpL (f_X9_write g c x l μ) (f_X10_write h c x l ν) g h := by
  obtain ⟨r1, r2, r3, r4, r5, r6, r7, r8⟩ := id r
  unfold f_X9_write f_X10_write
  simp only [X9_sheetAt_eq r1, b2_mk, X10_isSheet_eq, X9_finding_0 r1, X10_finds_0 r2, X9_finding_5 r1, X10_finds_5 r2]
  cases hv : vx 4 c with
  | none =>
    simp only [Option.map_none, oc_mn, iS_n, if_true]
    exact .mk (r.find (k := 0) (by decide))
  | some s =>
    obtain ⟨rfl, hs⟩ := vx_some hv
    obtain ⟨z, z1, z2, z3, z4, z5⟩ := r5 s hs
    have q := r1.2.2.2.2.2.2.2.2.2.2.2.2.2.2.2.2.2.2.2.2 s hs
    have l19 := r2.1.2.2.2.2.2.2.2.2.2.2.2.2.1
    have l20 := r2.1.2.2.2.2.2.2.2.2.2.2.2.2.2.1
    have l21 := r2.1.2.2.2.2.2.2.2.2.2.2.2.2.2.2.1
    have n13 := r2.2.2.2.2.2.2.2.2.2.2.2.2.2.1
    have n14 := r2.2.2.2.2.2.2.2.2.2.2.2.2.2.2.1
    have n15 := r2.2.2.2.2.2.2.2.2.2.2.2.2.2.2.2.1
    have is : ib (nI s) 4 = true := ib_nI hs (by omega)
    have js : (nI s).toNatClampNeg = s := nI_clamp (by omega)
    simp only [Option.map_some, oc_ms, iS_s, one_nz, if_false, l19, l20, l21, fo_mk, n13, n14, n15, is, gd_mk, js, z2, z3, z4, X9_within_eq, X10_within_eq, b2_mk, nm_mk]
    by_cases c0 : mI ν (h + 13) s = 0
    · simp only [c0, if_true]
      exact .mk (r.find (k := 5) (by decide))
    · simp only [c0, if_false, wi_vx (show z < 2 ^ 31 by omega)]
      cases hx : vx z x with
      | none =>
        simp only [iS_n, if_true, X9_finding_0 r1, X10_finds_0 r2]
        exact .mk (r.find (k := 0) (by decide))
      | some i =>
        obtain ⟨rfl, hi⟩ := vx_some hx
        have ii : ib (nI (40 * s + i)) 160 = true := ib_nI (by omega) (by omega)
        simp only [iS_s, one_nz, if_false, ix40, ii, gd_mk, nI_clamp (show 40 * s + i < 2 ^ 31 by omega)]
        rw [X4_numberAt_eq q.2.1 q.2.2 z1 z3 hi, b2_mk, X4_put_eq q.2.1 q.2.2 z1 z3 hi, b1_mk, z2]
        refine OpL.of (r' := mL ν (h + 15) (40 * s + i)) (ν := sL ν (h + 15) (40 * s + i) (low (mI ν (h + 13) s) l)) rfl ?_ (z5 i (by omega)) (r.sheetPut hs (by omega) _)
        unfold low
        split
        · rfl
        · split <;> rfl
/-! copy -/
theorem Rel.sheetCopy {g h : Nat} {μ ν ν' : XMem} (r : Rel g μ h ν) {s t f d n : Nat} (hs : s < 4) (ht : t < 4) (hf : f + n ≤ 40) (hd : d + n ≤ 40) (eI : mI ν' = mI ν) (eR : mR ν' = mR ν) (eN : mN ν' = mN ν) (eL : ∀ q, q ≠ h + 15 → q ≠ h + 16 → mL ν' q = mL ν q)
    (e : ∀ y, mL ν' (h + 15) y = if 40 * t + d ≤ y ∧ y < 40 * t + d + n then mL ν (h + 15) (40 * s + f + (y - (40 * t + d))) else mL ν (h + 15) y) : Rel g (sC μ (g + 56 + 2 * s) f (g + 56 + 2 * t) d n) h ν' := by
  obtain ⟨r1, r2, r3, r4, r5, r6, r7, r8⟩ := id r
  have hc : ∀ q y, mL (sC μ (g + 56 + 2 * s) f (g + 56 + 2 * t) d n) q y = if q = g + 56 + 2 * t then va_cpy (mL μ (g + 56 + 2 * s)) (mL μ (g + 56 + 2 * t)) f d n y else mL μ q y := by
    intro q y
    simp only [mL, sC]
    split <;> rfl
  refine r.sh (fun q hq => rfl) (fun q hq => by funext y; rw [hc, if_neg (by omega)]) rfl rfl (fun q h1 h2 => by rw [eI]) eL eR eN ?_
  intro u hu
  obtain ⟨y, y1, y2, y3, y4, y5⟩ := r5 u hu
  refine ⟨y, y1, by rw [eI]; exact y2, y3, by rw [eI]; exact y4, fun k hk => ?_⟩
  rw [hc, e]
  by_cases eu : u = t
  · subst eu
    rw [if_pos rfl]
    by_cases hin : d ≤ k ∧ k < d + n
    · rw [pk_cpy_in hin.1 hin.2, if_pos (by omega)]
      obtain ⟨y', -, -, -, -, y5'⟩ := r5 s hs
      rw [y5' _ (by omega)]
      congr 1
      omega
    · rw [pk_cpy_out (by omega), if_neg (by omega)]
      exact y5 k hk
  · rw [if_neg (by omega), if_neg (by omega)]
    exact y5 k hk
/-- the reference's first loop: n longs are carried -/
def cyA (h b : Nat) : Nat → Nat → XMem → XMem
  | 0, _, ν => ν
  | m + 1, i, ν => cyA h b m (i + 1) (sL ν (h + 16) i (mL ν (h + 15) (b + i)))
def cyB (h b : Nat) : Nat → Nat → XMem → XMem
  | 0, _, ν => ν
  | m + 1, i, ν => cyB h b m (i + 1) (sL ν (h + 15) (b + i) (mL ν (h + 16) i))
theorem cyA_mL {h b : Nat} : ∀ (m i : Nat) (ν : XMem) (x y : Nat), mL (cyA h b m i ν) x y = if x = h + 16 ∧ i ≤ y ∧ y < i + m then mL ν (h + 15) (b + y) else mL ν x y := by
  intro m
  induction m with
  | zero => intro i ν x y; rw [if_neg (by omega)]; rfl
  | succ m ih =>
    intro i ν x y
    show mL (cyA h b m (i + 1) _) x y = _
    rw [ih, mL_ne (show h + 15 ≠ h + 16 by omega), mL_sL]
    by_cases h1 : x = h + 16
    · by_cases h2 : y = i
      · rw [if_neg (by omega), if_pos h1, if_pos h2, if_pos (by omega), h2]
      · rw [if_pos h1, if_neg h2]
        by_cases h3 : i + 1 ≤ y ∧ y < i + 1 + m
        · rw [if_pos ⟨h1, h3⟩, if_pos (by omega)]
        · rw [if_neg (by omega), if_neg (by omega)]
    · rw [if_neg (by omega), if_neg h1, if_neg (by omega)]
theorem cyB_mL {h b : Nat} : ∀ (m i : Nat) (ν : XMem) (x y : Nat), mL (cyB h b m i ν) x y = if x = h + 15 ∧ b + i ≤ y ∧ y < b + i + m then mL ν (h + 16) (y - b) else mL ν x y := by
  intro m
  induction m with
  | zero => intro i ν x y; rw [if_neg (by omega)]; rfl
  | succ m ih =>
    intro i ν x y
    show mL (cyB h b m (i + 1) _) x y = _
    rw [ih, mL_ne (show h + 16 ≠ h + 15 by omega), mL_sL]
    by_cases h1 : x = h + 15
    · by_cases h2 : y = b + i
      · rw [if_neg (by omega), if_pos h1, if_pos h2, if_pos (by omega), h2, show b + i - b = i by omega]
      · rw [if_pos h1, if_neg h2]
        by_cases h3 : b + (i + 1) ≤ y ∧ y < b + (i + 1) + m
        · rw [if_pos ⟨h1, h3⟩, if_pos (by omega)]
        · rw [if_neg (by omega), if_neg (by omega)]
    · rw [if_neg (by omega), if_neg h1, if_neg (by omega)]
theorem cyA_r {h b : Nat} : ∀ (m i : Nat) (ν : XMem), mI (cyA h b m i ν) = mI ν ∧ mR (cyA h b m i ν) = mR ν ∧ mN (cyA h b m i ν) = mN ν := by
  intro m
  induction m with
  | zero => intros; exact ⟨rfl, rfl, rfl⟩
  | succ m ih => intro i ν; exact ih _ _
theorem cyB_r {h b : Nat} : ∀ (m i : Nat) (ν : XMem), mI (cyB h b m i ν) = mI ν ∧ mR (cyB h b m i ν) = mR ν ∧ mN (cyB h b m i ν) = mN ν := by
  intro m
  induction m with
  | zero => intros; exact ⟨rfl, rfl, rfl⟩
  | succ m ih => intro i ν; exact ih _ _
theorem ix40b {s f i : Nat} : (40 * nI s + nI f) + nI i = nI (40 * s + f + i) := by rw [ix40, nI_add]
theorem X10_copy_l1 {h s f N : Nat} {x3 x4 : Int32} (hs : s < 4) (hf : f + N ≤ 40) {k : XMem → Option (Int32 × XMem)} : ∀ (m n i : Nat) (ν : XMem), LM h (mR ν) (mN ν) → i + m = N → m < n → f_X10_copy_h119 h (nI s) (nI f) x3 x4 (nI N) k n (nI i) ν = k (cyA h (40 * s + f) m i ν) := by
  intro m
  induction m with
  | zero =>
    intro n i ν L hi hm
    obtain ⟨n, rfl⟩ : ∃ q, n = q + 1 := ⟨n - 1, by omega⟩
    rw [f_X10_copy_h119, if_pos (nI_le (by omega) (by omega))]
    rfl
  | succ m ih =>
    intro n i ν L hi hm
    obtain ⟨n, rfl⟩ : ∃ q, n = q + 1 := ⟨n - 1, by omega⟩
    have hc : ¬ nI N ≤ nI i := nI_ge (by omega) (by omega)
    have l21 := L.1.2.2.2.2.2.2.2.2.2.2.2.2.2.2.1
    have l22 := L.1.2.2.2.2.2.2.2.2.2.2.2.2.2.2.2
    have n15 := L.2.2.2.2.2.2.2.2.2.2.2.2.2.2.2.1
    have n16 := L.2.2.2.2.2.2.2.2.2.2.2.2.2.2.2.2
    rw [f_X10_copy_h119, if_neg hc, l22, fo_mk, l21, fo_mk, n15, n16, ix40b, ib_nI (n := 160) (by omega) (by omega), gd_mk, ib_nI (n := 40) (by omega) (by omega), gd_mk, nm_mk, nm_mk, nI_clamp (by omega), nI_clamp (by omega), nI_1, ih n (i + 1) (sL ν (h + 16) i (mL ν (h + 15) (40 * s + f + i))) L (by omega) (by omega)]
    rfl
theorem X10_copy_l2 {h t d N : Nat} (ht : t < 4) (hd : d + N ≤ 40) {k : XMem → Option (Int32 × XMem)} : ∀ (m n i : Nat) (ν : XMem), LM h (mR ν) (mN ν) → i + m = N → m < n → f_X10_copy_h156 h (nI t) (nI d) (nI N) k n (nI i) ν = k (cyB h (40 * t + d) m i ν) := by
  intro m
  induction m with
  | zero =>
    intro n i ν L hi hm
    obtain ⟨n, rfl⟩ : ∃ q, n = q + 1 := ⟨n - 1, by omega⟩
    rw [f_X10_copy_h156, if_pos (nI_le (by omega) (by omega))]
    rfl
  | succ m ih =>
    intro n i ν L hi hm
    obtain ⟨n, rfl⟩ : ∃ q, n = q + 1 := ⟨n - 1, by omega⟩
    have hc : ¬ nI N ≤ nI i := nI_ge (by omega) (by omega)
    have l21 := L.1.2.2.2.2.2.2.2.2.2.2.2.2.2.2.1
    have l22 := L.1.2.2.2.2.2.2.2.2.2.2.2.2.2.2.2
    have n15 := L.2.2.2.2.2.2.2.2.2.2.2.2.2.2.2.1
    have n16 := L.2.2.2.2.2.2.2.2.2.2.2.2.2.2.2.2
    rw [f_X10_copy_h156, if_neg hc, l21, fo_mk, l22, fo_mk, n15, n16, ix40b, ib_nI (n := 40) (by omega) (by omega), gd_mk, ib_nI (n := 160) (by omega) (by omega), gd_mk, nm_mk, nm_mk, nI_clamp (by omega), nI_clamp (by omega), nI_1, ih n (i + 1) (sL ν (h + 15) (40 * t + d + i) (mL ν (h + 16) i)) L (by omega) (by omega)]
    rfl
theorem X4_has_eq {a z f n : Nat} {μ : XMem} (h3 : mI μ a 1 = nI z) (hz : z ≤ 40) (hf : f < 2 ^ 31) (hn : n < 2 ^ 31) : f_X4_has a (nI f) (nI n) μ = some (if f + n ≤ z then 1 else 0, μ) := by
  unfold f_X4_has
  rw [if_neg (nI_pos hf), if_neg (nI_pos hn), h3, nI_l hf, nI_l hn, nI_l (show z < 2 ^ 31 by omega)]
  have key : (0 < lg_cmp (lN f + lN n) (lN z)) ↔ ¬ f + n ≤ z := by
    have e1 : (lN f + lN n).toInt = (f : Int) + n := by
      rw [Int64.toInt_add, lN_toInt hf, lN_toInt hn]
      have := Int.bmod_eq_of_le (n := (f : Int) + n) (m := 2 ^ 64) (by omega) (by omega)
      exact this
    have e2 := lN_toInt (n := z) (by omega)
    unfold lg_cmp
    by_cases h1 : lN f + lN n > lN z
    · rw [if_pos h1]
      have : (lN z).toInt < (lN f + lN n).toInt := Int64.lt_iff_toInt_lt.mp h1
      exact ⟨fun _ => by omega, fun _ => by decide⟩
    · rw [if_neg h1]
      have : ¬ (lN z).toInt < (lN f + lN n).toInt := fun q => h1 (Int64.lt_iff_toInt_lt.mpr q)
      refine ⟨fun q => absurd q ?_, fun q => absurd q (by omega)⟩
      split <;> decide
  by_cases hle : f + n ≤ z
  · rw [if_neg (fun q => (key.mp q) hle), if_pos hle]
  · rw [if_pos (key.mpr hle), if_neg hle]
theorem X4_has_neg {a : Nat} {μ : XMem} {x y : Int32} (h : x < 0 ∨ y < 0) : f_X4_has a x y μ = some (0, μ) := by
  unfold f_X4_has
  by_cases h1 : x < 0
  · rw [if_pos h1]
  · rw [if_neg h1, if_pos (h.resolve_left h1)]
