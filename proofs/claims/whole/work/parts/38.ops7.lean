/-! PURE LAYER 8: sheets -/
theorem Rel.sh {g h : Nat} {μ ν μ' ν' : XMem} (r : Rel g μ h ν) (eI : ∀ q, q < g + 55 ∨ g + 63 ≤ q → mI μ' q = mI μ q) (eL : ∀ q, q < g + 55 ∨ g + 63 ≤ q → mL μ' q = mL μ q) (eR : mR μ' = mR μ) (eN : mN μ' = mN μ)
    (fI : ∀ q, q ≠ h + 13 → q ≠ h + 14 → mI ν' q = mI ν q) (fL : ∀ q, q ≠ h + 15 → q ≠ h + 16 → mL ν' q = mL ν q) (fR : mR ν' = mR ν) (fN : mN ν' = mN ν) (s : Rsheet g μ' h ν') : Rel g μ' h ν' := by
  obtain ⟨r1, r2, r3, r4, -, r6, r7, r8⟩ := r
  exact ⟨by rw [eR, eN]; exact r1, by rw [fR, fN]; exact r2, r3.cg (eI _ (by omega)) (fI _ (by omega) (by omega)), r4.cg (eI _ (by omega)) (eI _ (by omega)) (by rw [fI _ (by omega) (by omega)]) (fI _ (by omega) (by omega)), s,
    r6.cg (by rw [eI _ (by omega)]) (by rw [fI _ (by omega) (by omega)]) (eI _ (by omega)) (fun c hc => eI _ (by omega)) (fun c hc => eL _ (by omega)) (fun q hq => eI _ (by omega)) eR eN (fI _ (by omega) (by omega)) (fL _ (by omega) (by omega)),
    r7.cg (eI _ (by omega)) (fun c hc => eI _ (by omega)) (fun c hc => eL _ (by omega)) (fun q hq => eI _ (by omega)) eR eN (fI _ (by omega) (by omega)) (fL _ (by omega) (by omega)), r8.cg (fI _ (by omega) (by omega)) (fI _ (by omega) (by omega))⟩
/-- m longs from b + i on are 0 -/
def zL (a b : Nat) : Nat → Nat → XMem → XMem
  | 0, _, ν => ν
  | m + 1, i, ν => zL a b m (i + 1) (sL ν a (b + i) 0)
theorem zL_mL {a b : Nat} : ∀ (m i : Nat) (ν : XMem) (x y : Nat), mL (zL a b m i ν) x y = if x = a ∧ b + i ≤ y ∧ y < b + i + m then 0 else mL ν x y := by
  intro m
  induction m with
  | zero => intro i ν x y; rw [if_neg (by omega)]; rfl
  | succ m ih =>
    intro i ν x y
    show mL (zL a b m (i + 1) _) x y = _
    rw [ih, mL_sL]
    by_cases h1 : x = a
    · by_cases h2 : y = b + i
      · rw [if_neg (by omega), if_pos h1, if_pos h2, if_pos (by omega)]
      · rw [if_pos h1, if_neg h2]
        by_cases h3 : b + (i + 1) ≤ y ∧ y < b + (i + 1) + m
        · rw [if_pos ⟨h1, h3⟩, if_pos (by omega)]
        · rw [if_neg (by omega), if_neg (by omega)]
    · rw [if_neg (by omega), if_neg h1, if_neg (by omega)]
theorem zL_mI {a b : Nat} : ∀ (m i : Nat) (ν : XMem), mI (zL a b m i ν) = mI ν := by
  intro m
  induction m with
  | zero => intros; rfl
  | succ m ih => intro i ν; exact ih _ _
theorem zL_mR {a b : Nat} : ∀ (m i : Nat) (ν : XMem), mR (zL a b m i ν) = mR ν := by
  intro m
  induction m with
  | zero => intros; rfl
  | succ m ih => intro i ν; exact ih _ _
theorem zL_mN {a b : Nat} : ∀ (m i : Nat) (ν : XMem), mN (zL a b m i ν) = mN ν := by
  intro m
  induction m with
  | zero => intros; rfl
  | succ m ih => intro i ν; exact ih _ _
theorem zL_ne {a b m i : Nat} {ν : XMem} {q : Nat} (h : q ≠ a) : mL (zL a b m i ν) q = mL ν q := by
  funext y
  rw [zL_mL, if_neg (by omega)]
theorem X4_begin_loop {a b : Nat} {k : XMem → Option XMem} : ∀ (m n i : Nat) (μ : XMem), mR μ a 2 = some b → mN μ b = 40 → i + m = 40 → m < n → f_X4_begin_h24 a k n (nI i) μ = k (zL b 0 m i μ) := by
  intro m
  induction m with
  | zero =>
    intro n i μ h1 h2 hi hm
    obtain ⟨n, rfl⟩ : ∃ q, n = q + 1 := ⟨n - 1, by omega⟩
    rw [f_X4_begin_h24, h1, fo_mk, h2, if_pos (nI_le (by omega) (by omega))]
    rfl
  | succ m ih =>
    intro n i μ h1 h2 hi hm
    obtain ⟨n, rfl⟩ : ∃ q, n = q + 1 := ⟨n - 1, by omega⟩
    have hc : ¬ nI 40 ≤ nI i := nI_ge (by omega) (by omega)
    rw [f_X4_begin_h24, h1, fo_mk, h2, if_neg hc, fo_mk, h2, ib_nI (by omega) (by omega), gd_mk, nm_mk, nm_mk, nI_clamp (by omega), nI_1, ih n (i + 1) (sL μ b i 0) h1 h2 (by omega) (by omega)]
    show _ = k (zL b 0 m (i + 1) (sL μ b (0 + i) 0))
    rw [Nat.zero_add]
theorem X4_begin_eq {a b z : Nat} {μ : XMem} (h1 : mR μ a 2 = some b) (h2 : mN μ b = 40) (hz : z ≤ 40) (x : Int32) : f_X4_begin a x (nI z) μ = some (zL b 0 40 0 (sI (sI μ a 0 x) a 1 (nI z))) := by
  have e1 : (if nI z < nI 40 then nI z else nI 40) = nI z := by
    split
    · rfl
    · have : z = 40 := by
        rcases Nat.lt_or_ge z 40 with q | q
        · exact absurd (nI_lt q (by omega)) (by assumption)
        · omega
      rw [this]
  have e2 : (if 0 < nI z then nI z else 0) = nI z := by
    split
    · rfl
    · have : z = 0 := by
        rcases Nat.lt_or_ge 0 z with q | q
        · exact absurd (nI_lt (a := 0) q (by omega)) (by assumption)
        · omega
      rw [this]; rfl
  unfold f_X4_begin
  simp only [nm_mk]
  rw [show mR (sI μ a 0 x) a 2 = some b from h1, fo_mk, show mN (sI μ a 0 x) b = 40 from h2, e1, e2]
  exact X4_begin_loop (k := fun m106 => some m106) 40 2000 0 (sI (sI μ a 0 x) a 1 (nI z)) h1 h2 (by omega) (by omega)
theorem ix40 {s i : Nat} : (40 * nI s) + nI i = nI (40 * s + i) := by
  show nI 40 * nI s + nI i = _
  rw [pk_mul, nI_add]
theorem X10_sheet_loop {h s : Nat} (hs : s < 4) {k : XMem → Option (Int32 × XMem)} : ∀ (m n i : Nat) (ν : XMem), LM h (mR ν) (mN ν) → i + m = 40 → m < n → f_X10_sheet_h85 h (nI s) k n (nI i) ν = k (zL (h + 15) (40 * s) m i ν) := by
  intro m
  induction m with
  | zero =>
    intro n i ν L hi hm
    obtain ⟨n, rfl⟩ : ∃ q, n = q + 1 := ⟨n - 1, by omega⟩
    have hc : (40 : Int32) ≤ nI i := nI_le (a := 40) (b := i) (by omega) (by omega)
    rw [f_X10_sheet_h85, if_pos hc]
    rfl
  | succ m ih =>
    intro n i ν L hi hm
    obtain ⟨n, rfl⟩ : ∃ q, n = q + 1 := ⟨n - 1, by omega⟩
    have hc : ¬ (40 : Int32) ≤ nI i := nI_ge (b := 40) (a := i) (by omega) (by omega)
    have l21 := L.1.2.2.2.2.2.2.2.2.2.2.2.2.2.2.1
    have n15 := L.2.2.2.2.2.2.2.2.2.2.2.2.2.2.2.1
    rw [f_X10_sheet_h85, if_neg hc, l21, fo_mk, n15, ix40, ib_nI (by omega) (by omega), gd_mk, nm_mk, nm_mk, nI_clamp (by omega), nI_1, ih n (i + 1) (sL ν (h + 15) (40 * s + i) 0) L (by omega) (by omega)]
    rfl
theorem Rel.sheetSet {g h : Nat} {μ ν : XMem} (r : Rel g μ h ν) {s z : Nat} (hs : s < 4) (hz : z ≤ 40) (x : Int32) : Rel g (zL (g + 56 + 2 * s) 0 40 0 (sI (sI μ (g + 55 + 2 * s) 0 x) (g + 55 + 2 * s) 1 (nI z))) h (zL (h + 15) (40 * s) 40 0 (sI (sI ν (h + 13) s x) (h + 14) s (nI z))) := by
  obtain ⟨r1, r2, r3, r4, r5, r6, r7, r8⟩ := id r
  refine r.sh (fun q hq => by rw [zL_mI, mI_ne (by omega), mI_ne (by omega)]) (fun q hq => by rw [zL_ne (by omega)]; rfl) (by rw [zL_mR]; rfl) (by rw [zL_mN]; rfl) (fun q h1 h2 => by rw [zL_mI, mI_ne h2, mI_ne h1]) (fun q h1 _ => by rw [zL_ne h1]; rfl) (by rw [zL_mR]; rfl) (by rw [zL_mN]; rfl) ?_
  intro t ht
  obtain ⟨y, y1, y2, y3, y4, y5⟩ := r5 t ht
  simp only [zL_mI]
  by_cases e : t = s
  · subst e
    refine ⟨z, hz, ?_, by rw [mI_at], by rw [mI_at], fun k hk => ?_⟩
    · rw [mI_off (by omega), mI_at, mI_ne (by omega), mI_at]
    · rw [zL_mL, zL_mL, if_pos (by omega), if_pos (by omega)]
  · refine ⟨y, y1, ?_, ?_, ?_, fun k hk => ?_⟩
    · rw [mI_ne (by omega), mI_ne (by omega), mI_ne (show h + 13 ≠ h + 14 by omega), mI_off e]; exact y2
    · rw [mI_ne (by omega), mI_ne (by omega)]; exact y3
    · rw [mI_off e, mI_ne (show h + 14 ≠ h + 13 by omega)]; exact y4
    · rw [zL_mL, zL_mL, if_neg (by omega), if_neg (by omega)]; exact y5 k hk
theorem sheet_j {g h : Nat} {μ ν : XMem} (r : Rel g μ h ν) {s : Nat} (hs : s < 4) (x y : Int32) : OpI (f_X9_sheet_j40 g x y (g + 55 + 2 * s) μ) (f_X10_sheet_j36 h (nI s) x y ν) g h := by
  obtain ⟨r1, r2, r3, r4, r5, r6, r7, r8⟩ := id r
  have q := r1.2.2.2.2.2.2.2.2.2.2.2.2.2.2.2.2.2.2.2.2 s hs
  have l19 := r2.1.2.2.2.2.2.2.2.2.2.2.2.2.1
  have l20 := r2.1.2.2.2.2.2.2.2.2.2.2.2.2.2.1
  have n13 := r2.2.2.2.2.2.2.2.2.2.2.2.2.2.1
  have n14 := r2.2.2.2.2.2.2.2.2.2.2.2.2.2.2.1
  have is : ib (nI s) 4 = true := ib_nI hs (by omega)
  have js : (nI s).toNatClampNeg = s := nI_clamp (by omega)
  unfold f_X9_sheet_j40 f_X10_sheet_j36
  by_cases c1 : 0 ≤ y
  · by_cases c2 : y ≤ 40
    · obtain ⟨z, hz, rfl⟩ := nI_of2 (n := 40) rfl (Int32.not_lt.mpr c1) c2
      simp only [c1, c2, if_true]
      rw [l19, fo_mk, n13, is, gd_mk, nm_mk, js, show mR (sI ν (h + 13) s x) h 20 = some (h + 14) from l20, fo_mk]
      have key : ∀ w, w ≤ 40 → OpI (b1 (f_X4_begin (g + 55 + 2 * s) x (nI w) μ) fun m109 => some (mI m109 (g + 55 + 2 * s) 1, m109)) (f_X10_sheet_j81 h (nI s) (nI w) (nI s) (h + 14) (sI ν (h + 13) s x)) g h := by
        intro w hw
        rw [X4_begin_eq q.2.1 q.2.2 hw, b1_mk]
        unfold f_X10_sheet_j81
        rw [show mN (sI ν (h + 13) s x) (h + 14) = 4 from n14, is, gd_mk, nm_mk, js]
        have rl := X10_sheet_loop (h := h) hs (k := fun m117 => fo (mR m117 h 20) fun b118 => gd (ib (nI s) (mN m117 b118)) (some (mI m117 b118 s, m117))) 40 2000 0 (sI (sI ν (h + 13) s x) (h + 14) s (nI w)) r2 (by omega) (by omega)
        have rl2 : f_X10_sheet_h85 h (nI s) (fun m117 => fo (mR m117 h 20) fun b118 => gd (ib (nI s) (mN m117 b118)) (some (mI m117 b118 s, m117))) 2000 0 (sI (sI ν (h + 13) s x) (h + 14) s (nI w)) = some (nI w, zL (h + 15) (40 * s) 40 0 (sI (sI ν (h + 13) s x) (h + 14) s (nI w))) := by
          rw [show (0 : Int32) = nI 0 from rfl, rl]
          rw [zL_mR, show mR (sI (sI ν (h + 13) s x) (h + 14) s (nI w)) h 20 = some (h + 14) from l20, fo_mk, zL_mN, show mN (sI (sI ν (h + 13) s x) (h + 14) s (nI w)) (h + 14) = 4 from n14, is, gd_mk, zL_mI, mI_at]
        exact OpI.of (r := nI w) (r' := nI w) (by rw [zL_mI, mI_at]) rl2 rfl (r.sheetSet hs hw x)
      by_cases c3 : x = 0
      · rw [if_pos c3, if_pos c3]
        exact key 0 (by omega)
      · rw [if_neg c3, if_neg c3]
        exact key z hz
    · simp only [c1, c2, if_true, if_false, X9_finding_0 r1, X10_finds_0 r2]
      exact .mk (r.find (k := 0) (by decide))
  · simp only [c1, if_false, X9_finding_6 r1, X10_finds_6 r2]
    exact .mk (r.find (k := 6) (by decide))
theorem op_sheet {g h : Nat} {μ ν : XMem} (r : Rel g μ h ν) (c x y : Int32) : OpI (f_X9_sheet g c x y μ) (f_X10_sheet h c x y ν) g h := by
  obtain ⟨r1, r2, r3, r4, r5, r6, r7, r8⟩ := id r
  unfold f_X9_sheet f_X10_sheet
  simp only [X9_sheetAt_eq r1, b2_mk, X10_isSheet_eq, X9_finding_0 r1, X10_finds_0 r2]
  cases hv : vx 4 c with
  | none =>
    simp only [Option.map_none, oc_mn, iS_n, if_true]
    exact .mk (r.find (k := 0) (by decide))
  | some s =>
    obtain ⟨rfl, hs⟩ := vx_some hv
    simp only [Option.map_some, oc_ms, iS_s, one_nz, if_false]
    have j := sheet_j r hs x y
    by_cases c0 : x = 0
    · rw [if_pos c0, if_pos c0]; exact j
    · by_cases c8 : x = 8
      · rw [if_neg c0, if_neg c0, if_pos c8, if_pos c8]; exact j
      · by_cases c16 : x = 16
        · rw [if_neg c0, if_neg c0, if_neg c8, if_neg c8, if_pos c16, if_pos c16]; exact j
        · by_cases c64 : x = 64
          · rw [if_neg c0, if_neg c0, if_neg c8, if_neg c8, if_neg c16, if_neg c16, if_pos c64, if_pos c64]; exact j
          · rw [if_neg c0, if_neg c0, if_neg c8, if_neg c8, if_neg c16, if_neg c16, if_neg c64, if_neg c64]
            exact .mk (r.find (k := 0) (by decide))
